set_option maxHeartbeats 4000000 in
set_option maxRecDepth 100000 in
theorem c_LN_many (l : Launch) (g : GC) (σ : St) (x1 : Int32) (r : Int32) (w_likeness_clashFrom : Int32) (w_likeness_clashTo : Int32) (w_likeness_holds : Int32) (w_likeness_ready : Int32) (w_ways_far : Int32) (w_ways_ready : Int32) (w_ways_size : Int32) (w_ways_whole : Int32) (w_likeness_a : Nat → Int32) (w_likeness_b : Nat → Int32) (w_likeness_c : Nat → Int32) (w_ways_layers : Nat → Int32) (w_ways_reached : Nat → Int32) (w_ways_steps : Nat → Int32) (h : LN_many x1 (σ.1 1541) (σ.1 1542) (σ.1 1540) (σ.1 1539) (σ.1 641) (σ.1 1286) (σ.1 1283) (σ.1 1285) (σ.1 1284) (σ.2.2.1 26) (σ.2.2.1 27) (σ.2.2.1 25) (σ.2.2.1 11) (σ.2.2.1 22) (σ.2.2.1 23) (σ.2.2.1 21) = some (r, w_likeness_clashFrom, w_likeness_clashTo, w_likeness_holds, w_likeness_ready, w_ways_far, w_ways_ready, w_ways_size, w_ways_whole, w_likeness_a, w_likeness_b, w_likeness_c, w_ways_layers, w_ways_reached, w_ways_steps)) : Cn l g yX8_many (Cond.code yX8_many cX8_many 2 (some .int) :: wG) 6 134 [.ref (g.2.1 0), .int x1] σ (some (.int r)) (mkS σ [(1541, w_likeness_clashFrom), (1542, w_likeness_clashTo), (1540, w_likeness_holds), (1539, w_likeness_ready), (1286, w_ways_far), (1283, w_ways_ready), (1285, w_ways_size), (1284, w_ways_whole)] [] [(26, w_likeness_a), (27, w_likeness_b), (25, w_likeness_c), (22, w_ways_layers), (23, w_ways_reached), (21, w_ways_steps)] []) := by
  unfold Cn
  refine Met.ofW (cc := cX8_many) (maxL := 2) (ret := (some .int)) (by decide) rfl ?_
  intro p e s m args below meth c s₁ B hml hv
  obtain ⟨hargs, hP0, hK⟩ := hv
  have hx := B.exec
  have hb := B.bytes
  have hr := B.returns
  have hts : ∀ w ∈ wG, w.before args s = true := fun w h => atoms_spec (ws := (Cond.code yX8_many cX8_many 2 (some .int) :: wG)) B.pre w (List.mem_cons_of_mem _ h)
  have hown : s.vm.findClass RX8 = some m.cls := findClass_of_methodNamed B.named
  have hlocks := B.notSynchronized
  have hS9 : CallFix p m c cX8_many 2 s args wG RX8 := ⟨hx, hb, hml, hown, hts⟩
  have hw0 := hts _ mw_2_38
  have hw1 := hts _ mw_1_61
  have hw2 := hts _ mw_2_44
  have hw3 := hts _ mw_1_90
  have hw4 := hts _ mw_1_93
  have hf9 : entryFrame m args 2 = _ := (congrArg (fun a => entryFrame m a 2) hargs).trans (lg_entry_eq m [.ref (g.2.1 0), .int x1] 2)
  show Wg p l e 6 134 s m args below meth c g (some (.int r)) (mkS σ [(1541, w_likeness_clashFrom), (1542, w_likeness_clashTo), (1540, w_likeness_holds), (1539, w_likeness_ready), (1286, w_ways_far), (1283, w_ways_ready), (1285, w_ways_size), (1284, w_ways_whole)] [] [(26, w_likeness_a), (27, w_likeness_b), (25, w_likeness_c), (22, w_ways_layers), (23, w_ways_reached), (21, w_ways_steps)] []) s.heap [] (entryFrame m args 2)
  rw [hf9]
  have hl := lv_entry ([.ref (g.2.1 0), .int x1]) (n := 2) (Nat.le_of_ble_eq_true rfl)
  generalize (lg_sl ([.ref (g.2.1 0), .int x1]) ++ List.replicate (2 - (lg_sl ([.ref (g.2.1 0), .int x1])).length) Slot.unset).toArray = ls at hl ⊢
  have hl : lv_has ls 2 [(0, .ref (g.2.1 0)), (1, .int x1)] := hl
  have hG : GW g s σ s.heap [] := ⟨hP0, va_S.rf⟩
  have hG : GW g s (mkS σ [(1541, (σ.1 1541)), (1542, (σ.1 1542)), (1540, (σ.1 1540)), (1539, (σ.1 1539)), (1286, (σ.1 1286)), (1283, (σ.1 1283)), (1285, (σ.1 1285)), (1284, (σ.1 1284))] [] [(26, (σ.2.2.1 26)), (27, (σ.2.2.1 27)), (25, (σ.2.2.1 25)), (22, (σ.2.2.1 22)), (23, (σ.2.2.1 23)), (21, (σ.2.2.1 21))] []) s.heap [] := GW_self [1541, 1542, 1540, 1539, 1286, 1283, 1285, 1284] [] [26, 27, 25, 22, 23, 21] [] hG
  unfold LN_many at h
  refine lv_aload_n hx hb dX8_many_0 rfl (lv_at hl 0 rfl) ?_
  obtain ⟨z1, hc2, h⟩ := bnd_some h
  refine gx_cV (σ' := (mkS σ [(1541, (σ.1 1541)), (1542, (σ.1 1542)), (1540, (σ.1 1540)), (1539, (σ.1 1539)), (1286, z1.1), (1283, z1.2.1), (1285, z1.2.2.1), (1284, z1.2.2.2.1)] [] [(26, (σ.2.2.1 26)), (27, (σ.2.2.1 27)), (25, (σ.2.2.1 25)), (22, z1.2.2.2.2.1), (23, z1.2.2.2.2.2.1), (21, z1.2.2.2.2.2.2)] [])) (r := none) (rest := []) (As := []) hS9 (c_LN_measure l g (mkS σ [(1541, (σ.1 1541)), (1542, (σ.1 1542)), (1540, (σ.1 1540)), (1539, (σ.1 1539)), (1286, (σ.1 1286)), (1283, (σ.1 1283)), (1285, (σ.1 1285)), (1284, (σ.1 1284))] [] [(26, (σ.2.2.1 26)), (27, (σ.2.2.1 27)), (25, (σ.2.2.1 25)), (22, (σ.2.2.1 22)), (23, (σ.2.2.1 23)), (21, (σ.2.2.1 21))] []) z1.1 z1.2.1 z1.2.2.1 z1.2.2.2.1 z1.2.2.2.2.1 z1.2.2.2.2.2.1 z1.2.2.2.2.2.2 hc2) (mk_mk rfl rfl rfl rfl) (cwV 0 hts (gz_V mw_3_5 mw_3_7 ms_1_6 mw_1_1 mw_3_8) rfl rfl rfl hdV_X8_measure ⟨Nat.le_of_ble_eq_true rfl, Nat.le_of_ble_eq_true rfl⟩) hK hG (ga_0 g _) rfl rfl rfl hl.1 rfl (Nat.le_of_ble_eq_true rfl) dX8_many_1 (fun H locs hG => ?_)
  refine W.eq (g2 := F0 m 4 ls []) rfl ?_
  refine lv_iload_n hx hb dX8_many_4 rfl (lv_at hl 1 rfl) ?_
  by_cases c3 : x1 = (0 : Int32)
  · have h := ite_t c3 h
    refine lv_tableIn (off := 55) (tgt := 60) hx hb dX8_many_5 (by rw [c3]; decide) (by rw [c3]; decide) (by rw [c3]; rfl) (by decide) ?_
    refine lv_aload_n hx hb dX8_many_60 rfl (lv_at hl 0 rfl) ?_
    refine gx_get (v := .ref (g.2.1 10)) (C := RX8) (T := TX8) (N := 13) hx hb hts mc_X8 hown hK hG (ga_0 g _) rfl 1 (by decide) hw0 rfl rfl dX8_many_61 ?_
    refine gx_get (v := .int (σ.1 641)) (C := RX2) (T := TX2) (N := 2) hx hb hts mc_X2 hown hK hG (ga_10 g _) rfl 1 (by decide) hw1 rfl rfl dX8_many_64 ?_
    cases h
    exact gx_iret hx hb hr hlocks hG dX8_many_67
  · have h := ite_f c3 h
    by_cases c4 : x1 = (1 : Int32)
    · have h := ite_t c4 h
      refine lv_tableIn (off := 63) (tgt := 68) hx hb dX8_many_5 (by rw [c4]; decide) (by rw [c4]; decide) (by rw [c4]; rfl) (by decide) ?_
      refine lv_aload_n hx hb dX8_many_68 rfl (lv_at hl 0 rfl) ?_
      refine gx_get (v := .ref (g.2.1 10)) (C := RX8) (T := TX8) (N := 13) hx hb hts mc_X8 hown hK hG (ga_0 g _) rfl 1 (by decide) hw0 rfl rfl dX8_many_69 ?_
      obtain ⟨z5, hc6, h⟩ := bnd_some h
      refine gx_cV (σ' := (mkS σ [(1541, (σ.1 1541)), (1542, (σ.1 1542)), (1540, (σ.1 1540)), (1539, (σ.1 1539)), (1286, z1.1), (1283, z1.2.1), (1285, z1.2.2.1), (1284, z1.2.2.2.1)] [] [(26, (σ.2.2.1 26)), (27, (σ.2.2.1 27)), (25, (σ.2.2.1 25)), (22, z1.2.2.2.2.1), (23, z1.2.2.2.2.2.1), (21, z1.2.2.2.2.2.2)] [])) (r := (some (.int z5))) (rest := []) (As := []) hS9 (c_Net_roads_10 l g (mkS σ [(1541, (σ.1 1541)), (1542, (σ.1 1542)), (1540, (σ.1 1540)), (1539, (σ.1 1539)), (1286, z1.1), (1283, z1.2.1), (1285, z1.2.2.1), (1284, z1.2.2.2.1)] [] [(26, (σ.2.2.1 26)), (27, (σ.2.2.1 27)), (25, (σ.2.2.1 25)), (22, z1.2.2.2.2.1), (23, z1.2.2.2.2.2.1), (21, z1.2.2.2.2.2.2)] []) z5 hc6) rfl (cwV 0 hts (gz_V mw_2_160 mw_2_161 mw_2_162 mw_1_3 mw_2_163) rfl rfl rfl hdV_X2_roads ⟨Nat.le_of_ble_eq_true rfl, Nat.le_of_ble_eq_true rfl⟩) hK hG (ga_10 g _) rfl rfl rfl hl.1 rfl (Nat.le_of_ble_eq_true rfl) dX8_many_72 (fun H locs hG => ?_)
      refine W.eq (g2 := F0 m 75 ls [.int z5]) rfl ?_
      cases h
      exact gx_iret hx hb hr hlocks hG dX8_many_75
    · have h := ite_f c4 h
      by_cases c7 : x1 = (2 : Int32)
      · have h := ite_t c7 h
        refine lv_tableIn (off := 71) (tgt := 76) hx hb dX8_many_5 (by rw [c7]; decide) (by rw [c7]; decide) (by rw [c7]; rfl) (by decide) ?_
        refine lv_aload_n hx hb dX8_many_76 rfl (lv_at hl 0 rfl) ?_
        refine gx_get (v := .ref (g.2.1 20)) (C := RX8) (T := TX8) (N := 13) hx hb hts mc_X8 hown hK hG (ga_0 g _) rfl 7 (by decide) hw2 rfl rfl dX8_many_77 ?_
        obtain ⟨z8, hc9, h⟩ := bnd_some h
        refine gx_cV (σ' := (mkS σ [(1541, (σ.1 1541)), (1542, (σ.1 1542)), (1540, (σ.1 1540)), (1539, (σ.1 1539)), (1286, z1.1), (1283, z1.2.1), (1285, z1.2.2.1), (1284, z1.2.2.2.1)] [] [(26, (σ.2.2.1 26)), (27, (σ.2.2.1 27)), (25, (σ.2.2.1 25)), (22, z1.2.2.2.2.1), (23, z1.2.2.2.2.2.1), (21, z1.2.2.2.2.2.2)] [])) (r := (some (.int z8))) (rest := []) (As := []) hS9 (c_Wy_pieces l g (mkS σ [(1541, (σ.1 1541)), (1542, (σ.1 1542)), (1540, (σ.1 1540)), (1539, (σ.1 1539)), (1286, z1.1), (1283, z1.2.1), (1285, z1.2.2.1), (1284, z1.2.2.2.1)] [] [(26, (σ.2.2.1 26)), (27, (σ.2.2.1 27)), (25, (σ.2.2.1 25)), (22, z1.2.2.2.2.1), (23, z1.2.2.2.2.2.1), (21, z1.2.2.2.2.2.2)] []) z8 hc9) rfl (cwV 0 hts (gz_V mw_3_41 mw_3_42 mw_3_43 mw_1_5 mw_3_44) rfl rfl rfl hdV_X7_pieces ⟨Nat.le_of_ble_eq_true rfl, Nat.le_of_ble_eq_true rfl⟩) hK hG (ga_20 g _) rfl rfl rfl hl.1 rfl (Nat.le_of_ble_eq_true rfl) dX8_many_80 (fun H locs hG => ?_)
        refine W.eq (g2 := F0 m 83 ls [.int z8]) rfl ?_
        cases h
        exact gx_iret hx hb hr hlocks hG dX8_many_83
      · have h := ite_f c7 h
        by_cases c10 : x1 = (3 : Int32)
        · have h := ite_t c10 h
          refine lv_tableIn (off := 79) (tgt := 84) hx hb dX8_many_5 (by rw [c10]; decide) (by rw [c10]; decide) (by rw [c10]; rfl) (by decide) ?_
          refine lv_aload_n hx hb dX8_many_84 rfl (lv_at hl 0 rfl) ?_
          refine gx_get (v := .ref (g.2.1 20)) (C := RX8) (T := TX8) (N := 13) hx hb hts mc_X8 hown hK hG (ga_0 g _) rfl 7 (by decide) hw2 rfl rfl dX8_many_85 ?_
          refine gx_get (v := .int z1.2.2.2.1) (C := RX7) (T := TX7) (N := 7) hx hb hts mc_X7 hown hK hG (ga_20 g _) rfl 4 (by decide) hw3 rfl rfl dX8_many_88 ?_
          obtain ⟨z11, hc12, h⟩ := bnd_some h
          refine gx_cS (σ' := (mkS σ [(1541, (σ.1 1541)), (1542, (σ.1 1542)), (1540, (σ.1 1540)), (1539, (σ.1 1539)), (1286, z1.1), (1283, z1.2.1), (1285, z1.2.2.1), (1284, z1.2.2.2.1)] [] [(26, (σ.2.2.1 26)), (27, (σ.2.2.1 27)), (25, (σ.2.2.1 25)), (22, z1.2.2.2.2.1), (23, z1.2.2.2.2.2.1), (21, z1.2.2.2.2.2.2)] [])) (r := (some (.int z11))) (rest := []) (As := [.int z1.2.2.2.1]) hS9 (c_LN_oneIf l g (mkS σ [(1541, (σ.1 1541)), (1542, (σ.1 1542)), (1540, (σ.1 1540)), (1539, (σ.1 1539)), (1286, z1.1), (1283, z1.2.1), (1285, z1.2.2.1), (1284, z1.2.2.2.1)] [] [(26, (σ.2.2.1 26)), (27, (σ.2.2.1 27)), (25, (σ.2.2.1 25)), (22, z1.2.2.2.2.1), (23, z1.2.2.2.2.2.1), (21, z1.2.2.2.2.2.2)] []) z1.2.2.2.1 z11 hc12) rfl (va_cwS 1 hts (gz_S mw_3_49 mw_3_50 mw_1_1 mw_3_51) rfl rfl rfl hdS_X8_oneIf ⟨Nat.le_of_ble_eq_true rfl, Nat.le_of_ble_eq_true rfl⟩) hK hG rfl hl.1 rfl (Nat.le_of_ble_eq_true rfl) dX8_many_91 (fun H locs hG => ?_)
          refine W.eq (g2 := F0 m 94 ls [.int z11]) rfl ?_
          cases h
          exact gx_iret hx hb hr hlocks hG dX8_many_94
        · have h := ite_f c10 h
          by_cases c13 : x1 = (4 : Int32)
          · have h := ite_t c13 h
            refine lv_tableIn (off := 90) (tgt := 95) hx hb dX8_many_5 (by rw [c13]; decide) (by rw [c13]; decide) (by rw [c13]; rfl) (by decide) ?_
            refine lv_aload_n hx hb dX8_many_95 rfl (lv_at hl 0 rfl) ?_
            refine gx_get (v := .ref (g.2.1 20)) (C := RX8) (T := TX8) (N := 13) hx hb hts mc_X8 hown hK hG (ga_0 g _) rfl 7 (by decide) hw2 rfl rfl dX8_many_96 ?_
            refine gx_get (v := .int z1.1) (C := RX7) (T := TX7) (N := 7) hx hb hts mc_X7 hown hK hG (ga_20 g _) rfl 6 (by decide) hw4 rfl rfl dX8_many_99 ?_
            cases h
            exact gx_iret hx hb hr hlocks hG dX8_many_102
          · have h := ite_f c13 h
            by_cases c14 : x1 = (5 : Int32)
            · have h := ite_t c14 h
              refine lv_tableIn (off := 98) (tgt := 103) hx hb dX8_many_5 (by rw [c14]; decide) (by rw [c14]; decide) (by rw [c14]; rfl) (by decide) ?_
              refine lv_aload_n hx hb dX8_many_103 rfl (lv_at hl 0 rfl) ?_
              refine gx_get (v := .ref (g.2.1 20)) (C := RX8) (T := TX8) (N := 13) hx hb hts mc_X8 hown hK hG (ga_0 g _) rfl 7 (by decide) hw2 rfl rfl dX8_many_104 ?_
              refine lv_aload_n hx hb dX8_many_107 rfl (lv_at hl 0 rfl) ?_
              refine gx_get (v := .ref (g.2.1 10)) (C := RX8) (T := TX8) (N := 13) hx hb hts mc_X8 hown hK hG (ga_0 g _) rfl 1 (by decide) hw0 rfl rfl dX8_many_108 ?_
              obtain ⟨z15, hc16, h⟩ := bnd_some h
              refine gx_cV (σ' := (mkS σ [(1541, (σ.1 1541)), (1542, (σ.1 1542)), (1540, (σ.1 1540)), (1539, (σ.1 1539)), (1286, z1.1), (1283, z1.2.1), (1285, z1.2.2.1), (1284, z1.2.2.2.1)] [] [(26, (σ.2.2.1 26)), (27, (σ.2.2.1 27)), (25, (σ.2.2.1 25)), (22, z1.2.2.2.2.1), (23, z1.2.2.2.2.2.1), (21, z1.2.2.2.2.2.2)] [])) (r := (some (.int z15))) (rest := []) (As := [.ref (g.2.1 10)]) hS9 (c_Wy_shortestRing l g (mkS σ [(1541, (σ.1 1541)), (1542, (σ.1 1542)), (1540, (σ.1 1540)), (1539, (σ.1 1539)), (1286, z1.1), (1283, z1.2.1), (1285, z1.2.2.1), (1284, z1.2.2.2.1)] [] [(26, (σ.2.2.1 26)), (27, (σ.2.2.1 27)), (25, (σ.2.2.1 25)), (22, z1.2.2.2.2.1), (23, z1.2.2.2.2.2.1), (21, z1.2.2.2.2.2.2)] []) z15 hc16) rfl (cwV 1 hts (gz_V mw_3_52 mw_3_53 mw_3_54 mw_1_5 mw_3_55) rfl rfl rfl hdV_X7_shortestRing ⟨Nat.le_of_ble_eq_true rfl, Nat.le_of_ble_eq_true rfl⟩) hK hG (ga_20 g _) rfl rfl rfl hl.1 rfl (Nat.le_of_ble_eq_true rfl) dX8_many_111 (fun H locs hG => ?_)
              refine W.eq (g2 := F0 m 114 ls [.int z15]) rfl ?_
              cases h
              exact gx_iret hx hb hr hlocks hG dX8_many_114
            · have h := ite_f c14 h
              by_cases c17 : x1 = (6 : Int32)
              · have h := ite_t c17 h
                refine lv_tableIn (off := 110) (tgt := 115) hx hb dX8_many_5 (by rw [c17]; decide) (by rw [c17]; decide) (by rw [c17]; rfl) (by decide) ?_
                refine lv_aload_n hx hb dX8_many_115 rfl (lv_at hl 0 rfl) ?_
                refine gx_get (v := .ref (g.2.1 10)) (C := RX8) (T := TX8) (N := 13) hx hb hts mc_X8 hown hK hG (ga_0 g _) rfl 1 (by decide) hw0 rfl rfl dX8_many_116 ?_
                obtain ⟨z18, hc19, h⟩ := bnd_some h
                refine gx_cV (σ' := (mkS σ [(1541, (σ.1 1541)), (1542, (σ.1 1542)), (1540, (σ.1 1540)), (1539, (σ.1 1539)), (1286, z1.1), (1283, z1.2.1), (1285, z1.2.2.1), (1284, z1.2.2.2.1)] [] [(26, (σ.2.2.1 26)), (27, (σ.2.2.1 27)), (25, (σ.2.2.1 25)), (22, z1.2.2.2.2.1), (23, z1.2.2.2.2.2.1), (21, z1.2.2.2.2.2.2)] [])) (r := (some (.int z18))) (rest := []) (As := []) hS9 (c_Net_isEven_10 l g (mkS σ [(1541, (σ.1 1541)), (1542, (σ.1 1542)), (1540, (σ.1 1540)), (1539, (σ.1 1539)), (1286, z1.1), (1283, z1.2.1), (1285, z1.2.2.1), (1284, z1.2.2.2.1)] [] [(26, (σ.2.2.1 26)), (27, (σ.2.2.1 27)), (25, (σ.2.2.1 25)), (22, z1.2.2.2.2.1), (23, z1.2.2.2.2.2.1), (21, z1.2.2.2.2.2.2)] []) z18 hc19) rfl (cwV 0 hts (gz_V mw_3_66 mw_3_67 mw_3_68 mw_1_3 mw_3_69) rfl rfl rfl hdV_X2_isEven ⟨Nat.le_of_ble_eq_true rfl, Nat.le_of_ble_eq_true rfl⟩) hK hG (ga_10 g _) rfl rfl rfl hl.1 rfl (Nat.le_of_ble_eq_true rfl) dX8_many_119 (fun H locs hG => ?_)
                refine W.eq (g2 := F0 m 122 ls [.int z18]) rfl ?_
                obtain ⟨z20, hc21, h⟩ := bnd_some h
                refine gx_cS (σ' := (mkS σ [(1541, (σ.1 1541)), (1542, (σ.1 1542)), (1540, (σ.1 1540)), (1539, (σ.1 1539)), (1286, z1.1), (1283, z1.2.1), (1285, z1.2.2.1), (1284, z1.2.2.2.1)] [] [(26, (σ.2.2.1 26)), (27, (σ.2.2.1 27)), (25, (σ.2.2.1 25)), (22, z1.2.2.2.2.1), (23, z1.2.2.2.2.2.1), (21, z1.2.2.2.2.2.2)] [])) (r := (some (.int z20))) (rest := []) (As := [.int z18]) hS9 (c_LN_oneIf l g (mkS σ [(1541, (σ.1 1541)), (1542, (σ.1 1542)), (1540, (σ.1 1540)), (1539, (σ.1 1539)), (1286, z1.1), (1283, z1.2.1), (1285, z1.2.2.1), (1284, z1.2.2.2.1)] [] [(26, (σ.2.2.1 26)), (27, (σ.2.2.1 27)), (25, (σ.2.2.1 25)), (22, z1.2.2.2.2.1), (23, z1.2.2.2.2.2.1), (21, z1.2.2.2.2.2.2)] []) z18 z20 hc21) rfl (va_cwS 1 hts (gz_S mw_3_49 mw_3_50 mw_1_1 mw_3_51) rfl rfl rfl hdS_X8_oneIf ⟨Nat.le_of_ble_eq_true rfl, Nat.le_of_ble_eq_true rfl⟩) hK hG rfl hl.1 rfl (Nat.le_of_ble_eq_true rfl) dX8_many_122 (fun H locs hG => ?_)
                refine W.eq (g2 := F0 m 125 ls [.int z20]) rfl ?_
                cases h
                exact gx_iret hx hb hr hlocks hG dX8_many_125
              · have h := ite_f c17 h
                by_cases c22 : x1 = (7 : Int32)
                · have h := ite_t c22 h
                  refine lv_tableIn (off := 121) (tgt := 126) hx hb dX8_many_5 (by rw [c22]; decide) (by rw [c22]; decide) (by rw [c22]; rfl) (by decide) ?_
                  refine lv_aload_n hx hb dX8_many_126 rfl (lv_at hl 0 rfl) ?_
                  refine gx_get (v := .ref (g.2.1 20)) (C := RX8) (T := TX8) (N := 13) hx hb hts mc_X8 hown hK hG (ga_0 g _) rfl 7 (by decide) hw2 rfl rfl dX8_many_127 ?_
                  refine lv_aload_n hx hb dX8_many_130 rfl (lv_at hl 0 rfl) ?_
                  refine gx_get (v := .ref (g.2.1 10)) (C := RX8) (T := TX8) (N := 13) hx hb hts mc_X8 hown hK hG (ga_0 g _) rfl 1 (by decide) hw0 rfl rfl dX8_many_131 ?_
                  obtain ⟨z23, hc24, h⟩ := bnd_some h
                  refine gx_cV (σ' := (mkS σ [(1541, (σ.1 1541)), (1542, (σ.1 1542)), (1540, (σ.1 1540)), (1539, (σ.1 1539)), (1286, z1.1), (1283, z1.2.1), (1285, z1.2.2.1), (1284, z1.2.2.2.1)] [] [(26, (σ.2.2.1 26)), (27, (σ.2.2.1 27)), (25, (σ.2.2.1 25)), (22, z1.2.2.2.2.1), (23, z1.2.2.2.2.2.1), (21, z1.2.2.2.2.2.2)] [])) (r := (some (.int z23))) (rest := []) (As := [.ref (g.2.1 10)]) hS9 (c_Wy_isOfSides l g (mkS σ [(1541, (σ.1 1541)), (1542, (σ.1 1542)), (1540, (σ.1 1540)), (1539, (σ.1 1539)), (1286, z1.1), (1283, z1.2.1), (1285, z1.2.2.1), (1284, z1.2.2.2.1)] [] [(26, (σ.2.2.1 26)), (27, (σ.2.2.1 27)), (25, (σ.2.2.1 25)), (22, z1.2.2.2.2.1), (23, z1.2.2.2.2.2.1), (21, z1.2.2.2.2.2.2)] []) z23 hc24) rfl (cwV 1 hts (gz_V mw_3_70 mw_3_71 mw_3_72 mw_1_5 mw_3_73) rfl rfl rfl hdV_X7_isOfSides ⟨Nat.le_of_ble_eq_true rfl, Nat.le_of_ble_eq_true rfl⟩) hK hG (ga_20 g _) rfl rfl rfl hl.1 rfl (Nat.le_of_ble_eq_true rfl) dX8_many_134 (fun H locs hG => ?_)
                  refine W.eq (g2 := F0 m 137 ls [.int z23]) rfl ?_
                  obtain ⟨z25, hc26, h⟩ := bnd_some h
                  refine gx_cS (σ' := (mkS σ [(1541, (σ.1 1541)), (1542, (σ.1 1542)), (1540, (σ.1 1540)), (1539, (σ.1 1539)), (1286, z1.1), (1283, z1.2.1), (1285, z1.2.2.1), (1284, z1.2.2.2.1)] [] [(26, (σ.2.2.1 26)), (27, (σ.2.2.1 27)), (25, (σ.2.2.1 25)), (22, z1.2.2.2.2.1), (23, z1.2.2.2.2.2.1), (21, z1.2.2.2.2.2.2)] [])) (r := (some (.int z25))) (rest := []) (As := [.int z23]) hS9 (c_LN_oneIf l g (mkS σ [(1541, (σ.1 1541)), (1542, (σ.1 1542)), (1540, (σ.1 1540)), (1539, (σ.1 1539)), (1286, z1.1), (1283, z1.2.1), (1285, z1.2.2.1), (1284, z1.2.2.2.1)] [] [(26, (σ.2.2.1 26)), (27, (σ.2.2.1 27)), (25, (σ.2.2.1 25)), (22, z1.2.2.2.2.1), (23, z1.2.2.2.2.2.1), (21, z1.2.2.2.2.2.2)] []) z23 z25 hc26) rfl (va_cwS 1 hts (gz_S mw_3_49 mw_3_50 mw_1_1 mw_3_51) rfl rfl rfl hdS_X8_oneIf ⟨Nat.le_of_ble_eq_true rfl, Nat.le_of_ble_eq_true rfl⟩) hK hG rfl hl.1 rfl (Nat.le_of_ble_eq_true rfl) dX8_many_137 (fun H locs hG => ?_)
                  refine W.eq (g2 := F0 m 140 ls [.int z25]) rfl ?_
                  cases h
                  exact gx_iret hx hb hr hlocks hG dX8_many_140
                · have h := ite_f c22 h
                  by_cases c27 : x1 = (8 : Int32)
                  · have h := ite_t c27 h
                    refine lv_tableIn (off := 136) (tgt := 141) hx hb dX8_many_5 (by rw [c27]; decide) (by rw [c27]; decide) (by rw [c27]; rfl) (by decide) ?_
                    refine lv_aload_n hx hb dX8_many_141 rfl (lv_at hl 0 rfl) ?_
                    refine gx_get (v := .ref (g.2.1 20)) (C := RX8) (T := TX8) (N := 13) hx hb hts mc_X8 hown hK hG (ga_0 g _) rfl 7 (by decide) hw2 rfl rfl dX8_many_142 ?_
                    obtain ⟨z28, hc29, h⟩ := bnd_some h
                    refine gx_cV (σ' := (mkS σ [(1541, (σ.1 1541)), (1542, (σ.1 1542)), (1540, (σ.1 1540)), (1539, (σ.1 1539)), (1286, z1.1), (1283, z1.2.1), (1285, z1.2.2.1), (1284, z1.2.2.2.1)] [] [(26, (σ.2.2.1 26)), (27, (σ.2.2.1 27)), (25, (σ.2.2.1 25)), (22, z1.2.2.2.2.1), (23, z1.2.2.2.2.2.1), (21, z1.2.2.2.2.2.2)] [])) (r := (some (.int z28))) (rest := []) (As := []) hS9 (c_Wy_isFolded l g (mkS σ [(1541, (σ.1 1541)), (1542, (σ.1 1542)), (1540, (σ.1 1540)), (1539, (σ.1 1539)), (1286, z1.1), (1283, z1.2.1), (1285, z1.2.2.1), (1284, z1.2.2.2.1)] [] [(26, (σ.2.2.1 26)), (27, (σ.2.2.1 27)), (25, (σ.2.2.1 25)), (22, z1.2.2.2.2.1), (23, z1.2.2.2.2.2.1), (21, z1.2.2.2.2.2.2)] []) z28 hc29) rfl (cwV 0 hts (gz_V mw_3_74 mw_3_75 mw_3_76 mw_1_5 mw_3_77) rfl rfl rfl hdV_X7_isFolded ⟨Nat.le_of_ble_eq_true rfl, Nat.le_of_ble_eq_true rfl⟩) hK hG (ga_20 g _) rfl rfl rfl hl.1 rfl (Nat.le_of_ble_eq_true rfl) dX8_many_145 (fun H locs hG => ?_)
                    refine W.eq (g2 := F0 m 148 ls [.int z28]) rfl ?_
                    obtain ⟨z30, hc31, h⟩ := bnd_some h
                    refine gx_cS (σ' := (mkS σ [(1541, (σ.1 1541)), (1542, (σ.1 1542)), (1540, (σ.1 1540)), (1539, (σ.1 1539)), (1286, z1.1), (1283, z1.2.1), (1285, z1.2.2.1), (1284, z1.2.2.2.1)] [] [(26, (σ.2.2.1 26)), (27, (σ.2.2.1 27)), (25, (σ.2.2.1 25)), (22, z1.2.2.2.2.1), (23, z1.2.2.2.2.2.1), (21, z1.2.2.2.2.2.2)] [])) (r := (some (.int z30))) (rest := []) (As := [.int z28]) hS9 (c_LN_oneIf l g (mkS σ [(1541, (σ.1 1541)), (1542, (σ.1 1542)), (1540, (σ.1 1540)), (1539, (σ.1 1539)), (1286, z1.1), (1283, z1.2.1), (1285, z1.2.2.1), (1284, z1.2.2.2.1)] [] [(26, (σ.2.2.1 26)), (27, (σ.2.2.1 27)), (25, (σ.2.2.1 25)), (22, z1.2.2.2.2.1), (23, z1.2.2.2.2.2.1), (21, z1.2.2.2.2.2.2)] []) z28 z30 hc31) rfl (va_cwS 1 hts (gz_S mw_3_49 mw_3_50 mw_1_1 mw_3_51) rfl rfl rfl hdS_X8_oneIf ⟨Nat.le_of_ble_eq_true rfl, Nat.le_of_ble_eq_true rfl⟩) hK hG rfl hl.1 rfl (Nat.le_of_ble_eq_true rfl) dX8_many_148 (fun H locs hG => ?_)
                    refine W.eq (g2 := F0 m 151 ls [.int z30]) rfl ?_
                    cases h
                    exact gx_iret hx hb hr hlocks hG dX8_many_151
                  · have h := ite_f c27 h
                    by_cases c32 : x1 = (9 : Int32)
                    · have h := ite_t c32 h
                      refine lv_tableIn (off := 147) (tgt := 152) hx hb dX8_many_5 (by rw [c32]; decide) (by rw [c32]; decide) (by rw [c32]; rfl) (by decide) ?_
                      refine lv_aload_n hx hb dX8_many_152 rfl (lv_at hl 0 rfl) ?_
                      obtain ⟨z33, hc34, h⟩ := bnd_some h
                      refine gx_cV (σ' := (mkS σ [(1541, z33.2.1), (1542, z33.2.2.1), (1540, z33.2.2.2.1), (1539, z33.2.2.2.2.1), (1286, z33.2.2.2.2.2.1), (1283, z33.2.2.2.2.2.2.1), (1285, z33.2.2.2.2.2.2.2.1), (1284, z33.2.2.2.2.2.2.2.2.1)] [] [(26, z33.2.2.2.2.2.2.2.2.2.1), (27, z33.2.2.2.2.2.2.2.2.2.2.1), (25, z33.2.2.2.2.2.2.2.2.2.2.2.1), (22, z33.2.2.2.2.2.2.2.2.2.2.2.2.1), (23, z33.2.2.2.2.2.2.2.2.2.2.2.2.2.1), (21, z33.2.2.2.2.2.2.2.2.2.2.2.2.2.2)] [])) (r := (some (.int z33.1))) (rest := []) (As := []) hS9 (c_LN_isLike l g (mkS σ [(1541, (σ.1 1541)), (1542, (σ.1 1542)), (1540, (σ.1 1540)), (1539, (σ.1 1539)), (1286, z1.1), (1283, z1.2.1), (1285, z1.2.2.1), (1284, z1.2.2.2.1)] [] [(26, (σ.2.2.1 26)), (27, (σ.2.2.1 27)), (25, (σ.2.2.1 25)), (22, z1.2.2.2.2.1), (23, z1.2.2.2.2.2.1), (21, z1.2.2.2.2.2.2)] []) z33.1 z33.2.1 z33.2.2.1 z33.2.2.2.1 z33.2.2.2.2.1 z33.2.2.2.2.2.1 z33.2.2.2.2.2.2.1 z33.2.2.2.2.2.2.2.1 z33.2.2.2.2.2.2.2.2.1 z33.2.2.2.2.2.2.2.2.2.1 z33.2.2.2.2.2.2.2.2.2.2.1 z33.2.2.2.2.2.2.2.2.2.2.2.1 z33.2.2.2.2.2.2.2.2.2.2.2.2.1 z33.2.2.2.2.2.2.2.2.2.2.2.2.2.1 z33.2.2.2.2.2.2.2.2.2.2.2.2.2.2 hc34) (mk_mk rfl rfl rfl rfl) (cwV 0 hts (gz_V mw_3_82 mw_3_84 ms_1_10 mw_1_1 mw_3_85) rfl rfl rfl hdV_X8_isLike ⟨Nat.le_of_ble_eq_true rfl, Nat.le_of_ble_eq_true rfl⟩) hK hG (ga_0 g _) rfl rfl rfl hl.1 rfl (Nat.le_of_ble_eq_true rfl) dX8_many_153 (fun H locs hG => ?_)
                      refine W.eq (g2 := F0 m 156 ls [.int z33.1]) rfl ?_
                      obtain ⟨z35, hc36, h⟩ := bnd_some h
                      refine gx_cS (σ' := (mkS σ [(1541, z33.2.1), (1542, z33.2.2.1), (1540, z33.2.2.2.1), (1539, z33.2.2.2.2.1), (1286, z33.2.2.2.2.2.1), (1283, z33.2.2.2.2.2.2.1), (1285, z33.2.2.2.2.2.2.2.1), (1284, z33.2.2.2.2.2.2.2.2.1)] [] [(26, z33.2.2.2.2.2.2.2.2.2.1), (27, z33.2.2.2.2.2.2.2.2.2.2.1), (25, z33.2.2.2.2.2.2.2.2.2.2.2.1), (22, z33.2.2.2.2.2.2.2.2.2.2.2.2.1), (23, z33.2.2.2.2.2.2.2.2.2.2.2.2.2.1), (21, z33.2.2.2.2.2.2.2.2.2.2.2.2.2.2)] [])) (r := (some (.int z35))) (rest := []) (As := [.int z33.1]) hS9 (c_LN_oneIf l g (mkS σ [(1541, z33.2.1), (1542, z33.2.2.1), (1540, z33.2.2.2.1), (1539, z33.2.2.2.2.1), (1286, z33.2.2.2.2.2.1), (1283, z33.2.2.2.2.2.2.1), (1285, z33.2.2.2.2.2.2.2.1), (1284, z33.2.2.2.2.2.2.2.2.1)] [] [(26, z33.2.2.2.2.2.2.2.2.2.1), (27, z33.2.2.2.2.2.2.2.2.2.2.1), (25, z33.2.2.2.2.2.2.2.2.2.2.2.1), (22, z33.2.2.2.2.2.2.2.2.2.2.2.2.1), (23, z33.2.2.2.2.2.2.2.2.2.2.2.2.2.1), (21, z33.2.2.2.2.2.2.2.2.2.2.2.2.2.2)] []) z33.1 z35 hc36) rfl (va_cwS 1 hts (gz_S mw_3_49 mw_3_50 mw_1_1 mw_3_51) rfl rfl rfl hdS_X8_oneIf ⟨Nat.le_of_ble_eq_true rfl, Nat.le_of_ble_eq_true rfl⟩) hK hG rfl hl.1 rfl (Nat.le_of_ble_eq_true rfl) dX8_many_156 (fun H locs hG => ?_)
                      refine W.eq (g2 := F0 m 159 ls [.int z35]) rfl ?_
                      cases h
                      exact gx_iret hx hb hr hlocks hG dX8_many_159
                    · have h := ite_f c32 h
                      refine lv_tableOut (tgt := 160) hx hb dX8_many_5 (sw_out (fun q h1 h2 => ?_)) (by decide) ?_
                      · rcases (show q = 0 ∨ q = 1 ∨ q = 2 ∨ q = 3 ∨ q = 4 ∨ q = 5 ∨ q = 6 ∨ q = 7 ∨ q = 8 ∨ q = 9 by omega) with rfl | rfl | rfl | rfl | rfl | rfl | rfl | rfl | rfl | rfl
                        · exact lv_neT c3 (by decide)
                        · exact lv_neT c4 (by decide)
                        · exact lv_neT c7 (by decide)
                        · exact lv_neT c10 (by decide)
                        · exact lv_neT c13 (by decide)
                        · exact lv_neT c14 (by decide)
                        · exact lv_neT c17 (by decide)
                        · exact lv_neT c22 (by decide)
                        · exact lv_neT c27 (by decide)
                        · exact lv_neT c32 (by decide)
                      refine lv_iconst (v := (-1 : Int32)) hx hb dX8_many_160 (by decide) ?_
                      cases h
                      exact gx_iret hx hb hr hlocks hG dX8_many_161

set_option maxHeartbeats 4000000 in
set_option maxRecDepth 100000 in
theorem c_JA_fillI_11 (l : Launch) (g : GC) (σ : St) (x1 : Int32) (w_r0 : Nat → Int32) (h : JA_fillI x1 32 (σ.2.2.1 11) = some w_r0) : Cn l g yJ7_fill_53178 (Cond.code yJ7_fill_53178 cJ7_fill_53178 4 none :: wG) 0 0 [.ref (g.2.1 11), .int x1] σ none (mkS σ [] [] [(11, w_r0)] []) := by
  unfold Cn
  refine Met.ofW (cc := cJ7_fill_53178) (maxL := 4) (ret := none) (by decide) rfl ?_
  intro p e s m args below meth c s₁ B hml hv
  obtain ⟨hargs, hP0, hK⟩ := hv
  have hx := B.exec
  have hb := B.bytes
  have hr := B.returns
  have hts : ∀ w ∈ wG, w.before args s = true := fun w h => atoms_spec (ws := (Cond.code yJ7_fill_53178 cJ7_fill_53178 4 none :: wG)) B.pre w (List.mem_cons_of_mem _ h)
  have hown : s.vm.findClass RJ7 = some m.cls := findClass_of_methodNamed B.named
  have hlocks := B.notSynchronized
  have hf9 : entryFrame m args 4 = _ := (congrArg (fun a => entryFrame m a 4) hargs).trans (lg_entry_eq m [.ref (g.2.1 11), .int x1] 4)
  show Wg p l e 0 0 s m args below meth c g none (mkS σ [] [] [(11, w_r0)] []) s.heap [] (entryFrame m args 4)
  rw [hf9]
  have hl := lv_entry ([.ref (g.2.1 11), .int x1]) (n := 4) (Nat.le_of_ble_eq_true rfl)
  generalize (lg_sl ([.ref (g.2.1 11), .int x1]) ++ List.replicate (4 - (lg_sl ([.ref (g.2.1 11), .int x1])).length) Slot.unset).toArray = ls at hl ⊢
  have hl : lv_has ls 4 [(0, .ref (g.2.1 11)), (1, .int x1)] := hl
  have hG : GW g s σ s.heap [] := ⟨hP0, va_S.rf⟩
  have hG : GW g s (mkS σ [] [] [(11, (σ.2.2.1 11))] []) s.heap [] := GW_self [] [] [11] [] hG
  unfold JA_fillI at h
  have n20 : ∀ (v_r0 : Nat → Int32) (H : Heap) (locs : List Loc) (ls : Array Slot), lv_has ls 4 [] → GW g s (mkS σ [] [] [(11, v_r0)] []) H locs → JA_fillI_n20 32 v_r0 = some w_r0 → Wg p l e 0 0 s m args below meth c g none (mkS σ [] [] [(11, w_r0)] []) H locs (F0 m 20 ls []) := by
    intro v_r0 H locs ls hl hG h
    unfold JA_fillI_n20 at h
    cases h
    exact gx_vret hx hb hr hlocks hG dJ7_fill_53178_20
  have n5 : ∀ (k5 : Int32 → Int32 → Int32 → (Nat → Int32) → Option ((Nat → Int32))) (hk5 : ∀ (x1 : Int32) (x2 : Int32) (x3 : Int32) (v_r0 : Nat → Int32) (H : Heap) (locs : List Loc) (ls : Array Slot), lv_has ls 4 [(0, .ref (g.2.1 11)), (1, .int x1), (2, .int x2), (3, .int x3)] → GW g s (mkS σ [] [] [(11, v_r0)] []) H locs → k5 x1 x2 x3 v_r0 = some w_r0 → Wg p l e 0 0 s m args below meth c g none (mkS σ [] [] [(11, w_r0)] []) H locs (F0 m 5 ls [])) (x1 : Int32) (x2 : Int32) (x3 : Int32) (v_r0 : Nat → Int32) (H : Heap) (locs : List Loc) (ls : Array Slot), lv_has ls 4 [(0, .ref (g.2.1 11)), (1, .int x1), (2, .int x2), (3, .int x3)] → GW g s (mkS σ [] [] [(11, v_r0)] []) H locs → JA_fillI_n5 k5 32 x1 x2 x3 v_r0 = some w_r0 → Wg p l e 0 0 s m args below meth c g none (mkS σ [] [] [(11, w_r0)] []) H locs (F0 m 5 ls []) := by
    intro k5 hk5 x1 x2 x3 v_r0 H locs ls hl hG h
    unfold JA_fillI_n5 at h
    refine lv_iload_n hx hb dJ7_fill_53178_5 rfl (lv_at hl 2 rfl) ?_
    refine lv_iload_n hx hb dJ7_fill_53178_6 rfl (lv_at hl 3 rfl) ?_
    refine lv_icmp_ge (tgt := 20) hx hb dJ7_fill_53178_7 (by decide) (fun c1 => ?_) (fun c1 => ?_)
    · have h := ite_t c1 h
      exact n20 v_r0 _ _ _ (lv_sub hl [] rfl) hG h
    · have h := ite_f c1 h
      refine lv_aload_n hx hb dJ7_fill_53178_10 rfl (lv_at hl 0 rfl) ?_
      refine lv_iload_n hx hb dJ7_fill_53178_11 rfl (lv_at hl 2 rfl) ?_
      refine lv_iload_n hx hb dJ7_fill_53178_12 rfl (lv_at hl 1 rfl) ?_
      obtain ⟨hg2, h⟩ := gd_some h
      refine gx_iast (σ' := (mkS σ [] [] [(11, (upd v_r0 (x2.toNatClampNeg) x1))] [])) (f := v_r0) hx hb hK hG (ga_11 g _) hg2 ((gs_11 g _ _).trans (congrArg (g_cells g) (mk_c 0 rfl rfl))) dJ7_fill_53178_13 (fun H locs hG => ?_)
      refine lv_iinc (v := (x2 + (1 : Int32))) (lv' := [(2, .int (x2 + (1 : Int32))), (0, .ref (g.2.1 11)), (1, .int x1), (3, .int x3)]) hx hb dJ7_fill_53178_14 hl (k := 2) rfl (congrArg (fun z => x2 + z) (by decide)) (Nat.le_of_ble_eq_true rfl) rfl (fun ls hl => ?_)
      refine lv_goto (tgt := 5) hx hb dJ7_fill_53178_17 (by decide) ?_
      exact hk5 x1 (x2 + (1 : Int32)) x3 (upd v_r0 (x2.toNatClampNeg) x1) _ _ _ (lv_sub hl [1, 2, 0, 3] rfl) hG h
  have l5 : ∀  (F : Nat) (x1 : Int32) (x2 : Int32) (x3 : Int32) (v_r0 : Nat → Int32) (H : Heap) (locs : List Loc) (ls : Array Slot), lv_has ls 4 [(0, .ref (g.2.1 11)), (1, .int x1), (2, .int x2), (3, .int x3)] → GW g s (mkS σ [] [] [(11, v_r0)] []) H locs → JA_fillI_l5 32 F x1 x2 x3 v_r0 = some w_r0 → Wg p l e 0 0 s m args below meth c g none (mkS σ [] [] [(11, w_r0)] []) H locs (F0 m 5 ls []) := by
    intro F
    induction F with
    | zero => intro x1 x2 x3 v_r0 H locs ls hl hG h; exact no_some h
    | succ F ih => intro x1 x2 x3 v_r0 H locs ls hl hG h; exact n5 (fun x1 x2 x3 v_r0 => JA_fillI_l5 32 F x1 x2 x3 v_r0) ih x1 x2 x3 v_r0 H locs ls hl hG h
  refine lv_iconst (v := (0 : Int32)) hx hb dJ7_fill_53178_0 (by decide) ?_
  refine lv_istore_n (lv' := [(2, .int (0 : Int32)), (0, .ref (g.2.1 11)), (1, .int x1)]) hx hb dJ7_fill_53178_1 rfl hl (Nat.le_of_ble_eq_true rfl) rfl (fun ls hl => ?_)
  refine lv_aload_n hx hb dJ7_fill_53178_2 rfl (lv_at hl 1 rfl) ?_
  refine gx_alen (v := (Int32.ofNat 32)) hx hb hK hG 0 (ga_11 g _) rfl rfl dJ7_fill_53178_3 ?_
  refine lv_istore_n (lv' := [(3, .int (Int32.ofNat 32)), (2, .int (0 : Int32)), (0, .ref (g.2.1 11)), (1, .int x1)]) hx hb dJ7_fill_53178_4 rfl hl (Nat.le_of_ble_eq_true rfl) rfl (fun ls hl => ?_)
  exact l5 FUEL x1 (0 : Int32) (Int32.ofNat 32) (σ.2.2.1 11) _ _ _ (lv_sub hl [2, 3, 1, 0] rfl) hG h

set_option maxHeartbeats 4000000 in
set_option maxRecDepth 100000 in
theorem c_Net_empty_10 (l : Launch) (g : GC) (σ : St) (x1 : Int32) (w_size : Int32) (w_near : Nat → Int32) (h : Net_empty x1 (σ.1 641) (σ.2.2.1 11) = some (w_size, w_near)) : Cn l g yX2_empty (Cond.code yX2_empty cX2_empty 2 none :: wG) 1 23 [.ref (g.2.1 10), .int x1] σ none (mkS σ [(641, w_size)] [] [(11, w_near)] []) := by
  unfold Cn
  refine Met.ofW (cc := cX2_empty) (maxL := 2) (ret := none) (by decide) rfl ?_
  intro p e s m args below meth c s₁ B hml hv
  obtain ⟨hargs, hP0, hK⟩ := hv
  have hx := B.exec
  have hb := B.bytes
  have hr := B.returns
  have hts : ∀ w ∈ wG, w.before args s = true := fun w h => atoms_spec (ws := (Cond.code yX2_empty cX2_empty 2 none :: wG)) B.pre w (List.mem_cons_of_mem _ h)
  have hown : s.vm.findClass RX2 = some m.cls := findClass_of_methodNamed B.named
  have hlocks := B.notSynchronized
  have hS9 : CallFix p m c cX2_empty 2 s args wG RX2 := ⟨hx, hb, hml, hown, hts⟩
  have hw0 := hts _ mw_1_56
  have hw1 := hts _ mw_1_53
  have hf9 : entryFrame m args 2 = _ := (congrArg (fun a => entryFrame m a 2) hargs).trans (lg_entry_eq m [.ref (g.2.1 10), .int x1] 2)
  show Wg p l e 1 23 s m args below meth c g none (mkS σ [(641, w_size)] [] [(11, w_near)] []) s.heap [] (entryFrame m args 2)
  rw [hf9]
  have hl := lv_entry ([.ref (g.2.1 10), .int x1]) (n := 2) (Nat.le_of_ble_eq_true rfl)
  generalize (lg_sl ([.ref (g.2.1 10), .int x1]) ++ List.replicate (2 - (lg_sl ([.ref (g.2.1 10), .int x1])).length) Slot.unset).toArray = ls at hl ⊢
  have hl : lv_has ls 2 [(0, .ref (g.2.1 10)), (1, .int x1)] := hl
  have hG : GW g s σ s.heap [] := ⟨hP0, va_S.rf⟩
  have hG : GW g s (mkS σ [(641, (σ.1 641))] [] [(11, (σ.2.2.1 11))] []) s.heap [] := GW_self [641] [] [11] [] hG
  unfold Net_empty at h
  refine lv_aload_n hx hb dX2_empty_0 rfl (lv_at hl 0 rfl) ?_
  refine lv_iload_n hx hb dX2_empty_1 rfl (lv_at hl 1 rfl) ?_
  refine gx_put (σ' := (mkS σ [(641, x1)] [] [(11, (σ.2.2.1 11))] [])) (C := RX2) (T := TX2) (N := 2) hx hb hts mc_X2 tyX2 tyX2_ok nmX2 hown hK hG (ga_10 g _) rfl 1 (by decide) hw0 rfl rfl rfl rfl (Nat.le_of_ble_eq_true rfl) ((gf_641 g _ _).trans (congrArg (g_cells g) (mk_a 0 rfl rfl))) dX2_empty_2 (fun H locs hG => ?_)
  refine lv_aload_n hx hb dX2_empty_5 rfl (lv_at hl 0 rfl) ?_
  refine gx_get (v := .ref (g.2.1 11)) (C := RX2) (T := TX2) (N := 2) hx hb hts mc_X2 hown hK hG (ga_10 g _) rfl 0 (by decide) hw1 rfl rfl dX2_empty_6 ?_
  refine lv_iconst (v := (0 : Int32)) hx hb dX2_empty_9 (by decide) ?_
  obtain ⟨z1, hc2, h⟩ := bnd_some h
  refine gx_cS (σ' := (mkS σ [(641, x1)] [] [(11, z1)] [])) (r := none) (rest := []) (As := [.ref (g.2.1 11), .int (0 : Int32)]) hS9 (c_JA_fillI_11 l g (mkS σ [(641, x1)] [] [(11, (σ.2.2.1 11))] []) (0 : Int32) z1 hc2) (mk_mk rfl rfl rfl rfl) (va_cwS 2 hts (gz_S mw_2_113 mw_1_155 mw_1_8 mw_1_156) rfl rfl rfl hdS_J7_fill_53178 ⟨Nat.le_of_ble_eq_true rfl, Nat.le_of_ble_eq_true rfl⟩) hK hG rfl hl.1 rfl (Nat.le_of_ble_eq_true rfl) dX2_empty_10 (fun H locs hG => ?_)
  refine W.eq (g2 := F0 m 13 ls []) rfl ?_
  cases h
  exact gx_vret hx hb hr hlocks hG dX2_empty_13

set_option maxHeartbeats 4000000 in
set_option maxRecDepth 100000 in
theorem c_LN_net (l : Launch) (g : GC) (σ : St) (x1 : Int32) (r : Int32) (w_likeness_ready : Int32) (w_now_size : Int32) (w_pairs_ready : Int32) (w_search_reach : Int32) (w_ways_ready : Int32) (w_now_near : Nat → Int32) (h : LN_net x1 (σ.1 1539) (σ.1 641) (σ.1 2632) (σ.1 2372) (σ.1 1283) (σ.2.2.1 11) = some (r, w_likeness_ready, w_now_size, w_pairs_ready, w_search_reach, w_ways_ready, w_now_near)) : Cn l g yX8_net (Cond.code yX8_net cX8_net 2 (some .int) :: wG) 2 44 [.ref (g.2.1 0), .int x1] σ (some (.int r)) (mkS σ [(1539, w_likeness_ready), (641, w_now_size), (2632, w_pairs_ready), (2372, w_search_reach), (1283, w_ways_ready)] [] [(11, w_now_near)] []) := by
  unfold Cn
  refine Met.ofW (cc := cX8_net) (maxL := 2) (ret := (some .int)) (by decide) rfl ?_
  intro p e s m args below meth c s₁ B hml hv
  obtain ⟨hargs, hP0, hK⟩ := hv
  have hx := B.exec
  have hb := B.bytes
  have hr := B.returns
  have hts : ∀ w ∈ wG, w.before args s = true := fun w h => atoms_spec (ws := (Cond.code yX8_net cX8_net 2 (some .int) :: wG)) B.pre w (List.mem_cons_of_mem _ h)
  have hown : s.vm.findClass RX8 = some m.cls := findClass_of_methodNamed B.named
  have hlocks := B.notSynchronized
  have hS9 : CallFix p m c cX8_net 2 s args wG RX8 := ⟨hx, hb, hml, hown, hts⟩
  have hw0 := hts _ mw_2_38
  have hf9 : entryFrame m args 2 = _ := (congrArg (fun a => entryFrame m a 2) hargs).trans (lg_entry_eq m [.ref (g.2.1 0), .int x1] 2)
  show Wg p l e 2 44 s m args below meth c g (some (.int r)) (mkS σ [(1539, w_likeness_ready), (641, w_now_size), (2632, w_pairs_ready), (2372, w_search_reach), (1283, w_ways_ready)] [] [(11, w_now_near)] []) s.heap [] (entryFrame m args 2)
  rw [hf9]
  have hl := lv_entry ([.ref (g.2.1 0), .int x1]) (n := 2) (Nat.le_of_ble_eq_true rfl)
  generalize (lg_sl ([.ref (g.2.1 0), .int x1]) ++ List.replicate (2 - (lg_sl ([.ref (g.2.1 0), .int x1])).length) Slot.unset).toArray = ls at hl ⊢
  have hl : lv_has ls 2 [(0, .ref (g.2.1 0)), (1, .int x1)] := hl
  have hG : GW g s σ s.heap [] := ⟨hP0, va_S.rf⟩
  have hG : GW g s (mkS σ [(1539, (σ.1 1539)), (641, (σ.1 641)), (2632, (σ.1 2632)), (2372, (σ.1 2372)), (1283, (σ.1 1283))] [] [(11, (σ.2.2.1 11))] []) s.heap [] := GW_self [1539, 641, 2632, 2372, 1283] [] [11] [] hG
  unfold LN_net at h
  have n10 : ∀ (v_likeness_ready : Int32) (v_now_size : Int32) (v_pairs_ready : Int32) (v_search_reach : Int32) (v_ways_ready : Int32) (v_now_near : Nat → Int32) (H : Heap) (locs : List Loc) (ls : Array Slot), lv_has ls 2 [] → GW g s (mkS σ [(1539, v_likeness_ready), (641, v_now_size), (2632, v_pairs_ready), (2372, v_search_reach), (1283, v_ways_ready)] [] [(11, v_now_near)] []) H locs → LN_net_n10 v_likeness_ready v_now_size v_pairs_ready v_search_reach v_ways_ready v_now_near = some (r, w_likeness_ready, w_now_size, w_pairs_ready, w_search_reach, w_ways_ready, w_now_near) → Wg p l e 2 44 s m args below meth c g (some (.int r)) (mkS σ [(1539, w_likeness_ready), (641, w_now_size), (2632, w_pairs_ready), (2372, w_search_reach), (1283, w_ways_ready)] [] [(11, w_now_near)] []) H locs (F0 m 10 ls []) := by
    intro v_likeness_ready v_now_size v_pairs_ready v_search_reach v_ways_ready v_now_near H locs ls hl hG h
    unfold LN_net_n10 at h
    refine lv_iconst (v := (-1 : Int32)) hx hb dX8_net_10 (by decide) ?_
    cases h
    exact gx_iret hx hb hr hlocks hG dX8_net_11
  refine lv_iload_n hx hb dX8_net_0 rfl (lv_at hl 1 rfl) ?_
  refine lv_if_lt (tgt := 10) hx hb dX8_net_1 (by decide) (fun c1 => ?_) (fun c1 => ?_)
  · have h := ite_t c1 h
    exact n10 (σ.1 1539) (σ.1 641) (σ.1 2632) (σ.1 2372) (σ.1 1283) (σ.2.2.1 11) _ _ _ (lv_sub hl [] rfl) hG h
  · have h := ite_f c1 h
    refine lv_iload_n hx hb dX8_net_4 rfl (lv_at hl 1 rfl) ?_
    refine lv_bipush (v := (32 : Int32)) hx hb dX8_net_5 (by decide) ?_
    refine lv_icmp_le (tgt := 12) hx hb dX8_net_7 (by decide) (fun c2 => ?_) (fun c2 => ?_)
    · have h := ite_t c2 h
      refine lv_aload_n hx hb dX8_net_12 rfl (lv_at hl 0 rfl) ?_
      refine gx_get (v := .ref (g.2.1 10)) (C := RX8) (T := TX8) (N := 13) hx hb hts mc_X8 hown hK hG (ga_0 g _) rfl 1 (by decide) hw0 rfl rfl dX8_net_13 ?_
      refine lv_iload_n hx hb dX8_net_16 rfl (lv_at hl 1 rfl) ?_
      obtain ⟨z3, hc4, h⟩ := bnd_some h
      refine gx_cV (σ' := (mkS σ [(1539, (σ.1 1539)), (641, z3.1), (2632, (σ.1 2632)), (2372, (σ.1 2372)), (1283, (σ.1 1283))] [] [(11, z3.2)] [])) (r := none) (rest := []) (As := [.int x1]) hS9 (c_Net_empty_10 l g (mkS σ [(1539, (σ.1 1539)), (641, (σ.1 641)), (2632, (σ.1 2632)), (2372, (σ.1 2372)), (1283, (σ.1 1283))] [] [(11, (σ.2.2.1 11))] []) x1 z3.1 z3.2 hc4) (mk_mk rfl rfl rfl rfl) (cwV 1 hts (gz_V mw_2_109 mw_2_110 mw_2_111 mw_1_3 mw_2_112) rfl rfl rfl hdV_X2_empty ⟨Nat.le_of_ble_eq_true rfl, Nat.le_of_ble_eq_true rfl⟩) hK hG (ga_10 g _) rfl rfl rfl hl.1 rfl (Nat.le_of_ble_eq_true rfl) dX8_net_17 (fun H locs hG => ?_)
      refine W.eq (g2 := F0 m 20 ls []) rfl ?_
      refine lv_aload_n hx hb dX8_net_20 rfl (lv_at hl 0 rfl) ?_
      obtain ⟨z5, hc6, h⟩ := bnd_some h
      refine gx_cV (σ' := (mkS σ [(1539, z5.1), (641, z3.1), (2632, z5.2.1), (2372, z5.2.2.1), (1283, z5.2.2.2)] [] [(11, z3.2)] [])) (r := none) (rest := []) (As := []) hS9 (c_LN_forget l g (mkS σ [(1539, (σ.1 1539)), (641, z3.1), (2632, (σ.1 2632)), (2372, (σ.1 2372)), (1283, (σ.1 1283))] [] [(11, z3.2)] []) z5.1 z5.2.1 z5.2.2.1 z5.2.2.2 hc6) (mk_mk rfl rfl rfl rfl) (cwV 0 hts (gz_V mw_2_114 mw_2_116 ms_1_0 mw_1_1 mw_2_117) rfl rfl rfl hdV_X8_forget ⟨Nat.le_of_ble_eq_true rfl, Nat.le_of_ble_eq_true rfl⟩) hK hG (ga_0 g _) rfl rfl rfl hl.1 rfl (Nat.le_of_ble_eq_true rfl) dX8_net_21 (fun H locs hG => ?_)
      refine W.eq (g2 := F0 m 24 ls []) rfl ?_
      refine lv_iconst (v := (1 : Int32)) hx hb dX8_net_24 (by decide) ?_
      cases h
      exact gx_iret hx hb hr hlocks hG dX8_net_25
    · have h := ite_f c2 h
      exact n10 (σ.1 1539) (σ.1 641) (σ.1 2632) (σ.1 2372) (σ.1 1283) (σ.2.2.1 11) _ _ _ (lv_sub hl [] rfl) hG h

set_option maxHeartbeats 4000000 in
set_option maxRecDepth 100000 in
theorem c_LN_other (l : Launch) (g : GC) (σ : St) (r : Int32) (w_likeness_ready : Int32) (w_made_size : Int32) (w_now_size : Int32) (w_pairs_ready : Int32) (w_search_reach : Int32) (w_ways_ready : Int32) (w_made_near : Nat → Int32) (w_now_near : Nat → Int32) (h : LN_other (σ.1 1539) (σ.1 769) (σ.1 641) (σ.1 2632) (σ.1 2372) (σ.1 1283) (σ.2.2.1 13) (σ.2.2.1 11) = some (r, w_likeness_ready, w_made_size, w_now_size, w_pairs_ready, w_search_reach, w_ways_ready, w_made_near, w_now_near)) : Cn l g yX8_other (Cond.code yX8_other cX8_other 3 (some .int) :: wG) 3 101 [.ref (g.2.1 0)] σ (some (.int r)) (mkS σ [(1539, w_likeness_ready), (769, w_made_size), (641, w_now_size), (2632, w_pairs_ready), (2372, w_search_reach), (1283, w_ways_ready)] [] [(13, w_made_near), (11, w_now_near)] []) := by
  unfold Cn
  refine Met.ofW (cc := cX8_other) (maxL := 3) (ret := (some .int)) (by decide) rfl ?_
  intro p e s m args below meth c s₁ B hml hv
  obtain ⟨hargs, hP0, hK⟩ := hv
  have hx := B.exec
  have hb := B.bytes
  have hr := B.returns
  have hts : ∀ w ∈ wG, w.before args s = true := fun w h => atoms_spec (ws := (Cond.code yX8_other cX8_other 3 (some .int) :: wG)) B.pre w (List.mem_cons_of_mem _ h)
  have hown : s.vm.findClass RX8 = some m.cls := findClass_of_methodNamed B.named
  have hlocks := B.notSynchronized
  have hS9 : CallFix p m c cX8_other 3 s args wG RX8 := ⟨hx, hb, hml, hown, hts⟩
  have hw0 := hts _ mw_2_38
  have hw1 := hts _ mw_1_61
  have hw2 := hts _ mw_2_39
  have hf9 : entryFrame m args 3 = _ := (congrArg (fun a => entryFrame m a 3) hargs).trans (lg_entry_eq m [.ref (g.2.1 0)] 3)
  show Wg p l e 3 101 s m args below meth c g (some (.int r)) (mkS σ [(1539, w_likeness_ready), (769, w_made_size), (641, w_now_size), (2632, w_pairs_ready), (2372, w_search_reach), (1283, w_ways_ready)] [] [(13, w_made_near), (11, w_now_near)] []) s.heap [] (entryFrame m args 3)
  rw [hf9]
  have hl := lv_entry ([.ref (g.2.1 0)]) (n := 3) (Nat.le_of_ble_eq_true rfl)
  generalize (lg_sl ([.ref (g.2.1 0)]) ++ List.replicate (3 - (lg_sl ([.ref (g.2.1 0)])).length) Slot.unset).toArray = ls at hl ⊢
  have hl : lv_has ls 3 [(0, .ref (g.2.1 0))] := hl
  have hG : GW g s σ s.heap [] := ⟨hP0, va_S.rf⟩
  have hG : GW g s (mkS σ [(1539, (σ.1 1539)), (769, (σ.1 769)), (641, (σ.1 641)), (2632, (σ.1 2632)), (2372, (σ.1 2372)), (1283, (σ.1 1283))] [] [(13, (σ.2.2.1 13)), (11, (σ.2.2.1 11))] []) s.heap [] := GW_self [1539, 769, 641, 2632, 2372, 1283] [] [13, 11] [] hG
  unfold LN_other at h
  have n63 : ∀ (k31 : Int32 → Int32 → Int32 → Int32 → Int32 → Int32 → Int32 → Int32 → (Nat → Int32) → (Nat → Int32) → Option (Int32 × Int32 × Int32 × Int32 × Int32 × Int32 × Int32 × (Nat → Int32) × (Nat → Int32))) (hk31 : ∀ (x1 : Int32) (x2 : Int32) (v_likeness_ready : Int32) (v_made_size : Int32) (v_now_size : Int32) (v_pairs_ready : Int32) (v_search_reach : Int32) (v_ways_ready : Int32) (v_made_near : Nat → Int32) (v_now_near : Nat → Int32) (H : Heap) (locs : List Loc) (ls : Array Slot), lv_has ls 3 [(0, .ref (g.2.1 0)), (1, .int x1), (2, .int x2)] → GW g s (mkS σ [(1539, v_likeness_ready), (769, v_made_size), (641, v_now_size), (2632, v_pairs_ready), (2372, v_search_reach), (1283, v_ways_ready)] [] [(13, v_made_near), (11, v_now_near)] []) H locs → k31 x1 x2 v_likeness_ready v_made_size v_now_size v_pairs_ready v_search_reach v_ways_ready v_made_near v_now_near = some (r, w_likeness_ready, w_made_size, w_now_size, w_pairs_ready, w_search_reach, w_ways_ready, w_made_near, w_now_near) → Wg p l e 3 101 s m args below meth c g (some (.int r)) (mkS σ [(1539, w_likeness_ready), (769, w_made_size), (641, w_now_size), (2632, w_pairs_ready), (2372, w_search_reach), (1283, w_ways_ready)] [] [(13, w_made_near), (11, w_now_near)] []) H locs (F0 m 31 ls [])) (x1 : Int32) (x2 : Int32) (v_likeness_ready : Int32) (v_made_size : Int32) (v_now_size : Int32) (v_pairs_ready : Int32) (v_search_reach : Int32) (v_ways_ready : Int32) (v_made_near : Nat → Int32) (v_now_near : Nat → Int32) (H : Heap) (locs : List Loc) (ls : Array Slot), lv_has ls 3 [(0, .ref (g.2.1 0)), (1, .int x1), (2, .int x2)] → GW g s (mkS σ [(1539, v_likeness_ready), (769, v_made_size), (641, v_now_size), (2632, v_pairs_ready), (2372, v_search_reach), (1283, v_ways_ready)] [] [(13, v_made_near), (11, v_now_near)] []) H locs → LN_other_n63 k31 x1 x2 v_likeness_ready v_made_size v_now_size v_pairs_ready v_search_reach v_ways_ready v_made_near v_now_near = some (r, w_likeness_ready, w_made_size, w_now_size, w_pairs_ready, w_search_reach, w_ways_ready, w_made_near, w_now_near) → Wg p l e 3 101 s m args below meth c g (some (.int r)) (mkS σ [(1539, w_likeness_ready), (769, w_made_size), (641, w_now_size), (2632, w_pairs_ready), (2372, w_search_reach), (1283, w_ways_ready)] [] [(13, w_made_near), (11, w_now_near)] []) H locs (F0 m 63 ls []) := by
    intro k31 hk31 x1 x2 v_likeness_ready v_made_size v_now_size v_pairs_ready v_search_reach v_ways_ready v_made_near v_now_near H locs ls hl hG h
    unfold LN_other_n63 at h
    refine lv_iinc (v := (x2 + (1 : Int32))) (lv' := [(2, .int (x2 + (1 : Int32))), (0, .ref (g.2.1 0)), (1, .int x1)]) hx hb dX8_other_63 hl (k := 2) rfl (congrArg (fun z => x2 + z) (by decide)) (Nat.le_of_ble_eq_true rfl) rfl (fun ls hl => ?_)
    refine lv_goto (tgt := 31) hx hb dX8_other_66 (by decide) ?_
    exact hk31 x1 (x2 + (1 : Int32)) v_likeness_ready v_made_size v_now_size v_pairs_ready v_search_reach v_ways_ready v_made_near v_now_near _ _ _ (lv_sub hl [1, 2, 0] rfl) hG h
  have n69 : ∀ (k16 : Int32 → Int32 → Int32 → Int32 → Int32 → Int32 → Int32 → (Nat → Int32) → (Nat → Int32) → Option (Int32 × Int32 × Int32 × Int32 × Int32 × Int32 × Int32 × (Nat → Int32) × (Nat → Int32))) (hk16 : ∀ (x1 : Int32) (v_likeness_ready : Int32) (v_made_size : Int32) (v_now_size : Int32) (v_pairs_ready : Int32) (v_search_reach : Int32) (v_ways_ready : Int32) (v_made_near : Nat → Int32) (v_now_near : Nat → Int32) (H : Heap) (locs : List Loc) (ls : Array Slot), lv_has ls 3 [(0, .ref (g.2.1 0)), (1, .int x1)] → GW g s (mkS σ [(1539, v_likeness_ready), (769, v_made_size), (641, v_now_size), (2632, v_pairs_ready), (2372, v_search_reach), (1283, v_ways_ready)] [] [(13, v_made_near), (11, v_now_near)] []) H locs → k16 x1 v_likeness_ready v_made_size v_now_size v_pairs_ready v_search_reach v_ways_ready v_made_near v_now_near = some (r, w_likeness_ready, w_made_size, w_now_size, w_pairs_ready, w_search_reach, w_ways_ready, w_made_near, w_now_near) → Wg p l e 3 101 s m args below meth c g (some (.int r)) (mkS σ [(1539, w_likeness_ready), (769, w_made_size), (641, w_now_size), (2632, w_pairs_ready), (2372, w_search_reach), (1283, w_ways_ready)] [] [(13, w_made_near), (11, w_now_near)] []) H locs (F0 m 16 ls [])) (x1 : Int32) (v_likeness_ready : Int32) (v_made_size : Int32) (v_now_size : Int32) (v_pairs_ready : Int32) (v_search_reach : Int32) (v_ways_ready : Int32) (v_made_near : Nat → Int32) (v_now_near : Nat → Int32) (H : Heap) (locs : List Loc) (ls : Array Slot), lv_has ls 3 [(0, .ref (g.2.1 0)), (1, .int x1)] → GW g s (mkS σ [(1539, v_likeness_ready), (769, v_made_size), (641, v_now_size), (2632, v_pairs_ready), (2372, v_search_reach), (1283, v_ways_ready)] [] [(13, v_made_near), (11, v_now_near)] []) H locs → LN_other_n69 k16 x1 v_likeness_ready v_made_size v_now_size v_pairs_ready v_search_reach v_ways_ready v_made_near v_now_near = some (r, w_likeness_ready, w_made_size, w_now_size, w_pairs_ready, w_search_reach, w_ways_ready, w_made_near, w_now_near) → Wg p l e 3 101 s m args below meth c g (some (.int r)) (mkS σ [(1539, w_likeness_ready), (769, w_made_size), (641, w_now_size), (2632, w_pairs_ready), (2372, w_search_reach), (1283, w_ways_ready)] [] [(13, w_made_near), (11, w_now_near)] []) H locs (F0 m 69 ls []) := by
    intro k16 hk16 x1 v_likeness_ready v_made_size v_now_size v_pairs_ready v_search_reach v_ways_ready v_made_near v_now_near H locs ls hl hG h
    unfold LN_other_n69 at h
    refine lv_iinc (v := (x1 + (1 : Int32))) (lv' := [(1, .int (x1 + (1 : Int32))), (0, .ref (g.2.1 0))]) hx hb dX8_other_69 hl (k := 1) rfl (congrArg (fun z => x1 + z) (by decide)) (Nat.le_of_ble_eq_true rfl) rfl (fun ls hl => ?_)
    refine lv_goto (tgt := 16) hx hb dX8_other_72 (by decide) ?_
    exact hk16 (x1 + (1 : Int32)) v_likeness_ready v_made_size v_now_size v_pairs_ready v_search_reach v_ways_ready v_made_near v_now_near _ _ _ (lv_sub hl [1, 0] rfl) hG h
  have n31 : ∀ (k16 : Int32 → Int32 → Int32 → Int32 → Int32 → Int32 → Int32 → (Nat → Int32) → (Nat → Int32) → Option (Int32 × Int32 × Int32 × Int32 × Int32 × Int32 × Int32 × (Nat → Int32) × (Nat → Int32))) (hk16 : ∀ (x1 : Int32) (v_likeness_ready : Int32) (v_made_size : Int32) (v_now_size : Int32) (v_pairs_ready : Int32) (v_search_reach : Int32) (v_ways_ready : Int32) (v_made_near : Nat → Int32) (v_now_near : Nat → Int32) (H : Heap) (locs : List Loc) (ls : Array Slot), lv_has ls 3 [(0, .ref (g.2.1 0)), (1, .int x1)] → GW g s (mkS σ [(1539, v_likeness_ready), (769, v_made_size), (641, v_now_size), (2632, v_pairs_ready), (2372, v_search_reach), (1283, v_ways_ready)] [] [(13, v_made_near), (11, v_now_near)] []) H locs → k16 x1 v_likeness_ready v_made_size v_now_size v_pairs_ready v_search_reach v_ways_ready v_made_near v_now_near = some (r, w_likeness_ready, w_made_size, w_now_size, w_pairs_ready, w_search_reach, w_ways_ready, w_made_near, w_now_near) → Wg p l e 3 101 s m args below meth c g (some (.int r)) (mkS σ [(1539, w_likeness_ready), (769, w_made_size), (641, w_now_size), (2632, w_pairs_ready), (2372, w_search_reach), (1283, w_ways_ready)] [] [(13, w_made_near), (11, w_now_near)] []) H locs (F0 m 16 ls [])) (k31 : Int32 → Int32 → Int32 → Int32 → Int32 → Int32 → Int32 → Int32 → (Nat → Int32) → (Nat → Int32) → Option (Int32 × Int32 × Int32 × Int32 × Int32 × Int32 × Int32 × (Nat → Int32) × (Nat → Int32))) (hk31 : ∀ (x1 : Int32) (x2 : Int32) (v_likeness_ready : Int32) (v_made_size : Int32) (v_now_size : Int32) (v_pairs_ready : Int32) (v_search_reach : Int32) (v_ways_ready : Int32) (v_made_near : Nat → Int32) (v_now_near : Nat → Int32) (H : Heap) (locs : List Loc) (ls : Array Slot), lv_has ls 3 [(0, .ref (g.2.1 0)), (1, .int x1), (2, .int x2)] → GW g s (mkS σ [(1539, v_likeness_ready), (769, v_made_size), (641, v_now_size), (2632, v_pairs_ready), (2372, v_search_reach), (1283, v_ways_ready)] [] [(13, v_made_near), (11, v_now_near)] []) H locs → k31 x1 x2 v_likeness_ready v_made_size v_now_size v_pairs_ready v_search_reach v_ways_ready v_made_near v_now_near = some (r, w_likeness_ready, w_made_size, w_now_size, w_pairs_ready, w_search_reach, w_ways_ready, w_made_near, w_now_near) → Wg p l e 3 101 s m args below meth c g (some (.int r)) (mkS σ [(1539, w_likeness_ready), (769, w_made_size), (641, w_now_size), (2632, w_pairs_ready), (2372, w_search_reach), (1283, w_ways_ready)] [] [(13, w_made_near), (11, w_now_near)] []) H locs (F0 m 31 ls [])) (x1 : Int32) (x2 : Int32) (v_likeness_ready : Int32) (v_made_size : Int32) (v_now_size : Int32) (v_pairs_ready : Int32) (v_search_reach : Int32) (v_ways_ready : Int32) (v_made_near : Nat → Int32) (v_now_near : Nat → Int32) (H : Heap) (locs : List Loc) (ls : Array Slot), lv_has ls 3 [(0, .ref (g.2.1 0)), (1, .int x1), (2, .int x2)] → GW g s (mkS σ [(1539, v_likeness_ready), (769, v_made_size), (641, v_now_size), (2632, v_pairs_ready), (2372, v_search_reach), (1283, v_ways_ready)] [] [(13, v_made_near), (11, v_now_near)] []) H locs → LN_other_n31 k16 k31 x1 x2 v_likeness_ready v_made_size v_now_size v_pairs_ready v_search_reach v_ways_ready v_made_near v_now_near = some (r, w_likeness_ready, w_made_size, w_now_size, w_pairs_ready, w_search_reach, w_ways_ready, w_made_near, w_now_near) → Wg p l e 3 101 s m args below meth c g (some (.int r)) (mkS σ [(1539, w_likeness_ready), (769, w_made_size), (641, w_now_size), (2632, w_pairs_ready), (2372, w_search_reach), (1283, w_ways_ready)] [] [(13, w_made_near), (11, w_now_near)] []) H locs (F0 m 31 ls []) := by
    intro k16 hk16 k31 hk31 x1 x2 v_likeness_ready v_made_size v_now_size v_pairs_ready v_search_reach v_ways_ready v_made_near v_now_near H locs ls hl hG h
    unfold LN_other_n31 at h
    refine lv_iload_n hx hb dX8_other_31 rfl (lv_at hl 2 rfl) ?_
    refine lv_aload_n hx hb dX8_other_32 rfl (lv_at hl 0 rfl) ?_
    refine gx_get (v := .ref (g.2.1 10)) (C := RX8) (T := TX8) (N := 13) hx hb hts mc_X8 hown hK hG (ga_0 g _) rfl 1 (by decide) hw0 rfl rfl dX8_other_33 ?_
    refine gx_get (v := .int v_now_size) (C := RX2) (T := TX2) (N := 2) hx hb hts mc_X2 hown hK hG (ga_10 g _) rfl 1 (by decide) hw1 rfl rfl dX8_other_36 ?_
    refine lv_icmp_ge (tgt := 69) hx hb dX8_other_39 (by decide) (fun c1 => ?_) (fun c1 => ?_)
    · have h := ite_t c1 h
      exact n69 k16 hk16 x1 v_likeness_ready v_made_size v_now_size v_pairs_ready v_search_reach v_ways_ready v_made_near v_now_near _ _ _ (lv_sub hl [0, 1] rfl) hG h
    · have h := ite_f c1 h
      refine lv_aload_n hx hb dX8_other_42 rfl (lv_at hl 0 rfl) ?_
      refine gx_get (v := .ref (g.2.1 10)) (C := RX8) (T := TX8) (N := 13) hx hb hts mc_X8 hown hK hG (ga_0 g _) rfl 1 (by decide) hw0 rfl rfl dX8_other_43 ?_
      refine lv_iload_n hx hb dX8_other_46 rfl (lv_at hl 1 rfl) ?_
      refine lv_iload_n hx hb dX8_other_47 rfl (lv_at hl 2 rfl) ?_
      obtain ⟨z2, hc3, h⟩ := bnd_some h
      refine gx_cV (σ' := (mkS σ [(1539, v_likeness_ready), (769, v_made_size), (641, v_now_size), (2632, v_pairs_ready), (2372, v_search_reach), (1283, v_ways_ready)] [] [(13, v_made_near), (11, v_now_near)] [])) (r := (some (.int z2))) (rest := []) (As := [.int x1, .int x2]) hS9 (c_Net_areJoined_10 l g (mkS σ [(1539, v_likeness_ready), (769, v_made_size), (641, v_now_size), (2632, v_pairs_ready), (2372, v_search_reach), (1283, v_ways_ready)] [] [(13, v_made_near), (11, v_now_near)] []) x1 x2 z2 hc3) rfl (cwV 2 hts (gz_V mw_2_130 mw_2_131 mw_2_132 mw_1_3 mw_2_133) rfl rfl rfl hdV_X2_areJoined ⟨Nat.le_of_ble_eq_true rfl, Nat.le_of_ble_eq_true rfl⟩) hK hG (ga_10 g _) rfl rfl rfl hl.1 rfl (Nat.le_of_ble_eq_true rfl) dX8_other_48 (fun H locs hG => ?_)
      refine W.eq (g2 := F0 m 51 ls [.int z2]) rfl ?_
      refine lv_if_ne (tgt := 63) hx hb dX8_other_51 (by decide) (fun c4 => ?_) (fun c4 => ?_)
      · have h := ite_f c4 h
        exact n63 k31 hk31 x1 x2 v_likeness_ready v_made_size v_now_size v_pairs_ready v_search_reach v_ways_ready v_made_near v_now_near _ _ _ (lv_sub hl [0, 1, 2] rfl) hG h
      · have h := ite_t c4 h
        refine lv_aload_n hx hb dX8_other_54 rfl (lv_at hl 0 rfl) ?_
        refine gx_get (v := .ref (g.2.1 12)) (C := RX8) (T := TX8) (N := 13) hx hb hts mc_X8 hown hK hG (ga_0 g _) rfl 2 (by decide) hw2 rfl rfl dX8_other_55 ?_
        refine lv_iload_n hx hb dX8_other_58 rfl (lv_at hl 1 rfl) ?_
        refine lv_iload_n hx hb dX8_other_59 rfl (lv_at hl 2 rfl) ?_
        obtain ⟨z5, hc6, h⟩ := bnd_some h
        refine gx_cV (σ' := (mkS σ [(1539, v_likeness_ready), (769, v_made_size), (641, v_now_size), (2632, v_pairs_ready), (2372, v_search_reach), (1283, v_ways_ready)] [] [(13, z5), (11, v_now_near)] [])) (r := none) (rest := []) (As := [.int x1, .int x2]) hS9 (c_Net_join_12 l g (mkS σ [(1539, v_likeness_ready), (769, v_made_size), (641, v_now_size), (2632, v_pairs_ready), (2372, v_search_reach), (1283, v_ways_ready)] [] [(13, v_made_near), (11, v_now_near)] []) x1 x2 z5 hc6) (mk_mk rfl rfl rfl rfl) (cwV 2 hts (gz_V mw_2_137 mw_2_138 mw_2_139 mw_1_3 mw_2_140) rfl rfl rfl hdV_X2_join ⟨Nat.le_of_ble_eq_true rfl, Nat.le_of_ble_eq_true rfl⟩) hK hG (ga_12 g _) rfl rfl rfl hl.1 rfl (Nat.le_of_ble_eq_true rfl) dX8_other_60 (fun H locs hG => ?_)
        refine W.eq (g2 := F0 m 63 ls []) rfl ?_
        exact n63 k31 hk31 x1 x2 v_likeness_ready v_made_size v_now_size v_pairs_ready v_search_reach v_ways_ready z5 v_now_near _ _ _ (lv_sub hl [0, 1, 2] rfl) hG h
  have l31 : ∀ (k16 : Int32 → Int32 → Int32 → Int32 → Int32 → Int32 → Int32 → (Nat → Int32) → (Nat → Int32) → Option (Int32 × Int32 × Int32 × Int32 × Int32 × Int32 × Int32 × (Nat → Int32) × (Nat → Int32))) (hk16 : ∀ (x1 : Int32) (v_likeness_ready : Int32) (v_made_size : Int32) (v_now_size : Int32) (v_pairs_ready : Int32) (v_search_reach : Int32) (v_ways_ready : Int32) (v_made_near : Nat → Int32) (v_now_near : Nat → Int32) (H : Heap) (locs : List Loc) (ls : Array Slot), lv_has ls 3 [(0, .ref (g.2.1 0)), (1, .int x1)] → GW g s (mkS σ [(1539, v_likeness_ready), (769, v_made_size), (641, v_now_size), (2632, v_pairs_ready), (2372, v_search_reach), (1283, v_ways_ready)] [] [(13, v_made_near), (11, v_now_near)] []) H locs → k16 x1 v_likeness_ready v_made_size v_now_size v_pairs_ready v_search_reach v_ways_ready v_made_near v_now_near = some (r, w_likeness_ready, w_made_size, w_now_size, w_pairs_ready, w_search_reach, w_ways_ready, w_made_near, w_now_near) → Wg p l e 3 101 s m args below meth c g (some (.int r)) (mkS σ [(1539, w_likeness_ready), (769, w_made_size), (641, w_now_size), (2632, w_pairs_ready), (2372, w_search_reach), (1283, w_ways_ready)] [] [(13, w_made_near), (11, w_now_near)] []) H locs (F0 m 16 ls [])) (F : Nat) (x1 : Int32) (x2 : Int32) (v_likeness_ready : Int32) (v_made_size : Int32) (v_now_size : Int32) (v_pairs_ready : Int32) (v_search_reach : Int32) (v_ways_ready : Int32) (v_made_near : Nat → Int32) (v_now_near : Nat → Int32) (H : Heap) (locs : List Loc) (ls : Array Slot), lv_has ls 3 [(0, .ref (g.2.1 0)), (1, .int x1), (2, .int x2)] → GW g s (mkS σ [(1539, v_likeness_ready), (769, v_made_size), (641, v_now_size), (2632, v_pairs_ready), (2372, v_search_reach), (1283, v_ways_ready)] [] [(13, v_made_near), (11, v_now_near)] []) H locs → LN_other_l31 k16 F x1 x2 v_likeness_ready v_made_size v_now_size v_pairs_ready v_search_reach v_ways_ready v_made_near v_now_near = some (r, w_likeness_ready, w_made_size, w_now_size, w_pairs_ready, w_search_reach, w_ways_ready, w_made_near, w_now_near) → Wg p l e 3 101 s m args below meth c g (some (.int r)) (mkS σ [(1539, w_likeness_ready), (769, w_made_size), (641, w_now_size), (2632, w_pairs_ready), (2372, w_search_reach), (1283, w_ways_ready)] [] [(13, w_made_near), (11, w_now_near)] []) H locs (F0 m 31 ls []) := by
    intro k16 hk16 F
    induction F with
    | zero => intro x1 x2 v_likeness_ready v_made_size v_now_size v_pairs_ready v_search_reach v_ways_ready v_made_near v_now_near H locs ls hl hG h; exact no_some h
    | succ F ih => intro x1 x2 v_likeness_ready v_made_size v_now_size v_pairs_ready v_search_reach v_ways_ready v_made_near v_now_near H locs ls hl hG h; exact n31 k16 hk16 (fun x1 x2 v_likeness_ready v_made_size v_now_size v_pairs_ready v_search_reach v_ways_ready v_made_near v_now_near => LN_other_l31 k16 F x1 x2 v_likeness_ready v_made_size v_now_size v_pairs_ready v_search_reach v_ways_ready v_made_near v_now_near) ih x1 x2 v_likeness_ready v_made_size v_now_size v_pairs_ready v_search_reach v_ways_ready v_made_near v_now_near H locs ls hl hG h
  have n75 : ∀ (v_likeness_ready : Int32) (v_made_size : Int32) (v_now_size : Int32) (v_pairs_ready : Int32) (v_search_reach : Int32) (v_ways_ready : Int32) (v_made_near : Nat → Int32) (v_now_near : Nat → Int32) (H : Heap) (locs : List Loc) (ls : Array Slot), lv_has ls 3 [(0, .ref (g.2.1 0))] → GW g s (mkS σ [(1539, v_likeness_ready), (769, v_made_size), (641, v_now_size), (2632, v_pairs_ready), (2372, v_search_reach), (1283, v_ways_ready)] [] [(13, v_made_near), (11, v_now_near)] []) H locs → LN_other_n75 v_likeness_ready v_made_size v_now_size v_pairs_ready v_search_reach v_ways_ready v_made_near v_now_near = some (r, w_likeness_ready, w_made_size, w_now_size, w_pairs_ready, w_search_reach, w_ways_ready, w_made_near, w_now_near) → Wg p l e 3 101 s m args below meth c g (some (.int r)) (mkS σ [(1539, w_likeness_ready), (769, w_made_size), (641, w_now_size), (2632, w_pairs_ready), (2372, w_search_reach), (1283, w_ways_ready)] [] [(13, w_made_near), (11, w_now_near)] []) H locs (F0 m 75 ls []) := by
    intro v_likeness_ready v_made_size v_now_size v_pairs_ready v_search_reach v_ways_ready v_made_near v_now_near H locs ls hl hG h
    unfold LN_other_n75 at h
    refine lv_aload_n hx hb dX8_other_75 rfl (lv_at hl 0 rfl) ?_
    obtain ⟨z7, hc8, h⟩ := bnd_some h
    refine gx_cV (σ' := (mkS σ [(1539, z7.2.1), (769, v_made_size), (641, z7.2.2.1), (2632, z7.2.2.2.1), (2372, z7.2.2.2.2.1), (1283, z7.2.2.2.2.2.1)] [] [(13, v_made_near), (11, z7.2.2.2.2.2.2)] [])) (r := (some (.int z7.1))) (rest := []) (As := []) hS9 (c_LN_adopt l g (mkS σ [(1539, v_likeness_ready), (769, v_made_size), (641, v_now_size), (2632, v_pairs_ready), (2372, v_search_reach), (1283, v_ways_ready)] [] [(13, v_made_near), (11, v_now_near)] []) z7.1 z7.2.1 z7.2.2.1 z7.2.2.2.1 z7.2.2.2.2.1 z7.2.2.2.2.2.1 z7.2.2.2.2.2.2 hc8) (mk_mk rfl rfl rfl rfl) (cwV 0 hts (gz_V mw_2_229 mw_2_231 ms_1_5 mw_1_1 mw_2_232) rfl rfl rfl hdV_X8_adopt ⟨Nat.le_of_ble_eq_true rfl, Nat.le_of_ble_eq_true rfl⟩) hK hG (ga_0 g _) rfl rfl rfl hl.1 rfl (Nat.le_of_ble_eq_true rfl) dX8_other_76 (fun H locs hG => ?_)
    refine W.eq (g2 := F0 m 79 ls [.int z7.1]) rfl ?_
    refine lv_pop hx hb dX8_other_79 rfl ?_
    refine lv_aload_n hx hb dX8_other_80 rfl (lv_at hl 0 rfl) ?_
    refine gx_get (v := .ref (g.2.1 10)) (C := RX8) (T := TX8) (N := 13) hx hb hts mc_X8 hown hK hG (ga_0 g _) rfl 1 (by decide) hw0 rfl rfl dX8_other_81 ?_
    obtain ⟨z9, hc10, h⟩ := bnd_some h
    refine gx_cV (σ' := (mkS σ [(1539, z7.2.1), (769, v_made_size), (641, z7.2.2.1), (2632, z7.2.2.2.1), (2372, z7.2.2.2.2.1), (1283, z7.2.2.2.2.2.1)] [] [(13, v_made_near), (11, z7.2.2.2.2.2.2)] [])) (r := (some (.int z9))) (rest := []) (As := []) hS9 (c_Net_roads_10 l g (mkS σ [(1539, z7.2.1), (769, v_made_size), (641, z7.2.2.1), (2632, z7.2.2.2.1), (2372, z7.2.2.2.2.1), (1283, z7.2.2.2.2.2.1)] [] [(13, v_made_near), (11, z7.2.2.2.2.2.2)] []) z9 hc10) rfl (cwV 0 hts (gz_V mw_2_160 mw_2_161 mw_2_162 mw_1_3 mw_2_163) rfl rfl rfl hdV_X2_roads ⟨Nat.le_of_ble_eq_true rfl, Nat.le_of_ble_eq_true rfl⟩) hK hG (ga_10 g _) rfl rfl rfl hl.1 rfl (Nat.le_of_ble_eq_true rfl) dX8_other_84 (fun H locs hG => ?_)
    refine W.eq (g2 := F0 m 87 ls [.int z9]) rfl ?_
    cases h
    exact gx_iret hx hb hr hlocks hG dX8_other_87
  have n16 : ∀ (k16 : Int32 → Int32 → Int32 → Int32 → Int32 → Int32 → Int32 → (Nat → Int32) → (Nat → Int32) → Option (Int32 × Int32 × Int32 × Int32 × Int32 × Int32 × Int32 × (Nat → Int32) × (Nat → Int32))) (hk16 : ∀ (x1 : Int32) (v_likeness_ready : Int32) (v_made_size : Int32) (v_now_size : Int32) (v_pairs_ready : Int32) (v_search_reach : Int32) (v_ways_ready : Int32) (v_made_near : Nat → Int32) (v_now_near : Nat → Int32) (H : Heap) (locs : List Loc) (ls : Array Slot), lv_has ls 3 [(0, .ref (g.2.1 0)), (1, .int x1)] → GW g s (mkS σ [(1539, v_likeness_ready), (769, v_made_size), (641, v_now_size), (2632, v_pairs_ready), (2372, v_search_reach), (1283, v_ways_ready)] [] [(13, v_made_near), (11, v_now_near)] []) H locs → k16 x1 v_likeness_ready v_made_size v_now_size v_pairs_ready v_search_reach v_ways_ready v_made_near v_now_near = some (r, w_likeness_ready, w_made_size, w_now_size, w_pairs_ready, w_search_reach, w_ways_ready, w_made_near, w_now_near) → Wg p l e 3 101 s m args below meth c g (some (.int r)) (mkS σ [(1539, w_likeness_ready), (769, w_made_size), (641, w_now_size), (2632, w_pairs_ready), (2372, w_search_reach), (1283, w_ways_ready)] [] [(13, w_made_near), (11, w_now_near)] []) H locs (F0 m 16 ls [])) (x1 : Int32) (v_likeness_ready : Int32) (v_made_size : Int32) (v_now_size : Int32) (v_pairs_ready : Int32) (v_search_reach : Int32) (v_ways_ready : Int32) (v_made_near : Nat → Int32) (v_now_near : Nat → Int32) (H : Heap) (locs : List Loc) (ls : Array Slot), lv_has ls 3 [(0, .ref (g.2.1 0)), (1, .int x1)] → GW g s (mkS σ [(1539, v_likeness_ready), (769, v_made_size), (641, v_now_size), (2632, v_pairs_ready), (2372, v_search_reach), (1283, v_ways_ready)] [] [(13, v_made_near), (11, v_now_near)] []) H locs → LN_other_n16 k16 x1 v_likeness_ready v_made_size v_now_size v_pairs_ready v_search_reach v_ways_ready v_made_near v_now_near = some (r, w_likeness_ready, w_made_size, w_now_size, w_pairs_ready, w_search_reach, w_ways_ready, w_made_near, w_now_near) → Wg p l e 3 101 s m args below meth c g (some (.int r)) (mkS σ [(1539, w_likeness_ready), (769, w_made_size), (641, w_now_size), (2632, w_pairs_ready), (2372, w_search_reach), (1283, w_ways_ready)] [] [(13, w_made_near), (11, w_now_near)] []) H locs (F0 m 16 ls []) := by
    intro k16 hk16 x1 v_likeness_ready v_made_size v_now_size v_pairs_ready v_search_reach v_ways_ready v_made_near v_now_near H locs ls hl hG h
    unfold LN_other_n16 at h
    refine lv_iload_n hx hb dX8_other_16 rfl (lv_at hl 1 rfl) ?_
    refine lv_aload_n hx hb dX8_other_17 rfl (lv_at hl 0 rfl) ?_
    refine gx_get (v := .ref (g.2.1 10)) (C := RX8) (T := TX8) (N := 13) hx hb hts mc_X8 hown hK hG (ga_0 g _) rfl 1 (by decide) hw0 rfl rfl dX8_other_18 ?_
    refine gx_get (v := .int v_now_size) (C := RX2) (T := TX2) (N := 2) hx hb hts mc_X2 hown hK hG (ga_10 g _) rfl 1 (by decide) hw1 rfl rfl dX8_other_21 ?_
    refine lv_icmp_ge (tgt := 75) hx hb dX8_other_24 (by decide) (fun c11 => ?_) (fun c11 => ?_)
    · have h := ite_t c11 h
      exact n75 v_likeness_ready v_made_size v_now_size v_pairs_ready v_search_reach v_ways_ready v_made_near v_now_near _ _ _ (lv_sub hl [0] rfl) hG h
    · have h := ite_f c11 h
      refine lv_iload_n hx hb dX8_other_27 rfl (lv_at hl 1 rfl) ?_
      refine lv_iconst (v := (1 : Int32)) hx hb dX8_other_28 (by decide) ?_
      refine lv_iadd hx hb dX8_other_29 ?_
      refine lv_istore_n (lv' := [(2, .int (x1 + (1 : Int32))), (0, .ref (g.2.1 0)), (1, .int x1)]) hx hb dX8_other_30 rfl hl (Nat.le_of_ble_eq_true rfl) rfl (fun ls hl => ?_)
      exact l31 k16 hk16 FUEL x1 (x1 + (1 : Int32)) v_likeness_ready v_made_size v_now_size v_pairs_ready v_search_reach v_ways_ready v_made_near v_now_near _ _ _ (lv_sub hl [1, 2, 0] rfl) hG h
  have l16 : ∀  (F : Nat) (x1 : Int32) (v_likeness_ready : Int32) (v_made_size : Int32) (v_now_size : Int32) (v_pairs_ready : Int32) (v_search_reach : Int32) (v_ways_ready : Int32) (v_made_near : Nat → Int32) (v_now_near : Nat → Int32) (H : Heap) (locs : List Loc) (ls : Array Slot), lv_has ls 3 [(0, .ref (g.2.1 0)), (1, .int x1)] → GW g s (mkS σ [(1539, v_likeness_ready), (769, v_made_size), (641, v_now_size), (2632, v_pairs_ready), (2372, v_search_reach), (1283, v_ways_ready)] [] [(13, v_made_near), (11, v_now_near)] []) H locs → LN_other_l16 F x1 v_likeness_ready v_made_size v_now_size v_pairs_ready v_search_reach v_ways_ready v_made_near v_now_near = some (r, w_likeness_ready, w_made_size, w_now_size, w_pairs_ready, w_search_reach, w_ways_ready, w_made_near, w_now_near) → Wg p l e 3 101 s m args below meth c g (some (.int r)) (mkS σ [(1539, w_likeness_ready), (769, w_made_size), (641, w_now_size), (2632, w_pairs_ready), (2372, w_search_reach), (1283, w_ways_ready)] [] [(13, w_made_near), (11, w_now_near)] []) H locs (F0 m 16 ls []) := by
    intro F
    induction F with
    | zero => intro x1 v_likeness_ready v_made_size v_now_size v_pairs_ready v_search_reach v_ways_ready v_made_near v_now_near H locs ls hl hG h; exact no_some h
    | succ F ih => intro x1 v_likeness_ready v_made_size v_now_size v_pairs_ready v_search_reach v_ways_ready v_made_near v_now_near H locs ls hl hG h; exact n16 (fun x1 v_likeness_ready v_made_size v_now_size v_pairs_ready v_search_reach v_ways_ready v_made_near v_now_near => LN_other_l16 F x1 v_likeness_ready v_made_size v_now_size v_pairs_ready v_search_reach v_ways_ready v_made_near v_now_near) ih x1 v_likeness_ready v_made_size v_now_size v_pairs_ready v_search_reach v_ways_ready v_made_near v_now_near H locs ls hl hG h
  refine lv_aload_n hx hb dX8_other_0 rfl (lv_at hl 0 rfl) ?_
  refine gx_get (v := .ref (g.2.1 12)) (C := RX8) (T := TX8) (N := 13) hx hb hts mc_X8 hown hK hG (ga_0 g _) rfl 2 (by decide) hw2 rfl rfl dX8_other_1 ?_
  refine lv_aload_n hx hb dX8_other_4 rfl (lv_at hl 0 rfl) ?_
  refine gx_get (v := .ref (g.2.1 10)) (C := RX8) (T := TX8) (N := 13) hx hb hts mc_X8 hown hK hG (ga_0 g _) rfl 1 (by decide) hw0 rfl rfl dX8_other_5 ?_
  refine gx_get (v := .int (σ.1 641)) (C := RX2) (T := TX2) (N := 2) hx hb hts mc_X2 hown hK hG (ga_10 g _) rfl 1 (by decide) hw1 rfl rfl dX8_other_8 ?_
  obtain ⟨z12, hc13, h⟩ := bnd_some h
  refine gx_cV (σ' := (mkS σ [(1539, (σ.1 1539)), (769, z12.1), (641, (σ.1 641)), (2632, (σ.1 2632)), (2372, (σ.1 2372)), (1283, (σ.1 1283))] [] [(13, z12.2), (11, (σ.2.2.1 11))] [])) (r := none) (rest := []) (As := [.int (σ.1 641)]) hS9 (c_Net_empty_12 l g (mkS σ [(1539, (σ.1 1539)), (769, (σ.1 769)), (641, (σ.1 641)), (2632, (σ.1 2632)), (2372, (σ.1 2372)), (1283, (σ.1 1283))] [] [(13, (σ.2.2.1 13)), (11, (σ.2.2.1 11))] []) (σ.1 641) z12.1 z12.2 hc13) (mk_mk rfl rfl rfl rfl) (cwV 1 hts (gz_V mw_2_109 mw_2_110 mw_2_111 mw_1_3 mw_2_112) rfl rfl rfl hdV_X2_empty ⟨Nat.le_of_ble_eq_true rfl, Nat.le_of_ble_eq_true rfl⟩) hK hG (ga_12 g _) rfl rfl rfl hl.1 rfl (Nat.le_of_ble_eq_true rfl) dX8_other_11 (fun H locs hG => ?_)
  refine W.eq (g2 := F0 m 14 ls []) rfl ?_
  refine lv_iconst (v := (0 : Int32)) hx hb dX8_other_14 (by decide) ?_
  refine lv_istore_n (lv' := [(1, .int (0 : Int32)), (0, .ref (g.2.1 0))]) hx hb dX8_other_15 rfl hl (Nat.le_of_ble_eq_true rfl) rfl (fun ls hl => ?_)
  exact l16 FUEL (0 : Int32) (σ.1 1539) z12.1 (σ.1 641) (σ.1 2632) (σ.1 2372) (σ.1 1283) z12.2 (σ.2.2.1 11) _ _ _ (lv_sub hl [1, 0] rfl) hG h

set_option maxHeartbeats 4000000 in
set_option maxRecDepth 100000 in
theorem c_LN_posts (l : Launch) (g : GC) (σ : St) (r : Int32) (w_told_broken : Int32) (w_told_judged : Int32) (w_told_rootCount : Int32) (w_told_total : Int64) (w_told_roots : Nat → Int32) (w_told_times : Nat → Int32) (w_told_k : Nat → Int64) (w_told_scaled : Nat → Int64) (w_told_t : Nat → Int64) (h : LN_posts (σ.1 1802) (σ.1 1804) (σ.1 1800) (σ.1 1801) (σ.2.1 1803) (σ.2.2.1 29) (σ.2.2.1 30) (σ.2.2.1 35) (σ.2.2.1 36) (σ.2.2.2 31) (σ.2.2.2 33) (σ.2.2.2 32) = some (r, w_told_broken, w_told_judged, w_told_rootCount, w_told_total, w_told_roots, w_told_times, w_told_k, w_told_scaled, w_told_t)) : Cn l g yX8_posts (Cond.code yX8_posts cX8_posts 1 (some .int) :: wG) 6 134 [.ref (g.2.1 0)] σ (some (.int r)) (mkS σ [(1802, w_told_broken), (1804, w_told_judged), (1801, w_told_rootCount)] [(1803, w_told_total)] [(35, w_told_roots), (36, w_told_times)] [(31, w_told_k), (33, w_told_scaled), (32, w_told_t)]) := by
  unfold Cn
  refine Met.ofW (cc := cX8_posts) (maxL := 1) (ret := (some .int)) (by decide) rfl ?_
  intro p e s m args below meth c s₁ B hml hv
  obtain ⟨hargs, hP0, hK⟩ := hv
  have hx := B.exec
  have hb := B.bytes
  have hr := B.returns
  have hts : ∀ w ∈ wG, w.before args s = true := fun w h => atoms_spec (ws := (Cond.code yX8_posts cX8_posts 1 (some .int) :: wG)) B.pre w (List.mem_cons_of_mem _ h)
  have hown : s.vm.findClass RX8 = some m.cls := findClass_of_methodNamed B.named
  have hlocks := B.notSynchronized
  have hS9 : CallFix p m c cX8_posts 1 s args wG RX8 := ⟨hx, hb, hml, hown, hts⟩
  have hw0 := hts _ mw_2_46
  have hw1 := hts _ mw_1_177
  have hf9 : entryFrame m args 1 = _ := (congrArg (fun a => entryFrame m a 1) hargs).trans (lg_entry_eq m [.ref (g.2.1 0)] 1)
  show Wg p l e 6 134 s m args below meth c g (some (.int r)) (mkS σ [(1802, w_told_broken), (1804, w_told_judged), (1801, w_told_rootCount)] [(1803, w_told_total)] [(35, w_told_roots), (36, w_told_times)] [(31, w_told_k), (33, w_told_scaled), (32, w_told_t)]) s.heap [] (entryFrame m args 1)
  rw [hf9]
  have hl := lv_entry ([.ref (g.2.1 0)]) (n := 1) (Nat.le_of_ble_eq_true rfl)
  generalize (lg_sl ([.ref (g.2.1 0)]) ++ List.replicate (1 - (lg_sl ([.ref (g.2.1 0)])).length) Slot.unset).toArray = ls at hl ⊢
  have hl : lv_has ls 1 [(0, .ref (g.2.1 0))] := hl
  have hG : GW g s σ s.heap [] := ⟨hP0, va_S.rf⟩
  have hG : GW g s (mkS σ [(1802, (σ.1 1802)), (1804, (σ.1 1804)), (1801, (σ.1 1801))] [(1803, (σ.2.1 1803))] [(35, (σ.2.2.1 35)), (36, (σ.2.2.1 36))] [(31, (σ.2.2.2 31)), (33, (σ.2.2.2 33)), (32, (σ.2.2.2 32))]) s.heap [] := GW_self [1802, 1804, 1801] [1803] [35, 36] [31, 33, 32] hG
  unfold LN_posts at h
  have n24 : ∀ (t0 : Int32) (v_told_broken : Int32) (v_told_judged : Int32) (v_told_rootCount : Int32) (v_told_total : Int64) (v_told_roots : Nat → Int32) (v_told_times : Nat → Int32) (v_told_k : Nat → Int64) (v_told_scaled : Nat → Int64) (v_told_t : Nat → Int64) (H : Heap) (locs : List Loc) (ls : Array Slot), lv_has ls 1 [] → GW g s (mkS σ [(1802, v_told_broken), (1804, v_told_judged), (1801, v_told_rootCount)] [(1803, v_told_total)] [(35, v_told_roots), (36, v_told_times)] [(31, v_told_k), (33, v_told_scaled), (32, v_told_t)]) H locs → LN_posts_n24 t0 v_told_broken v_told_judged v_told_rootCount v_told_total v_told_roots v_told_times v_told_k v_told_scaled v_told_t = some (r, w_told_broken, w_told_judged, w_told_rootCount, w_told_total, w_told_roots, w_told_times, w_told_k, w_told_scaled, w_told_t) → Wg p l e 6 134 s m args below meth c g (some (.int r)) (mkS σ [(1802, w_told_broken), (1804, w_told_judged), (1801, w_told_rootCount)] [(1803, w_told_total)] [(35, w_told_roots), (36, w_told_times)] [(31, w_told_k), (33, w_told_scaled), (32, w_told_t)]) H locs (F0 m 24 ls [.int t0]) := by
    intro t0 v_told_broken v_told_judged v_told_rootCount v_told_total v_told_roots v_told_times v_told_k v_told_scaled v_told_t H locs ls hl hG h
    unfold LN_posts_n24 at h
    cases h
    exact gx_iret hx hb hr hlocks hG dX8_posts_24
  refine lv_aload_n hx hb dX8_posts_0 rfl (lv_at hl 0 rfl) ?_
  refine gx_get (v := .ref (g.2.1 28)) (C := RX8) (T := TX8) (N := 13) hx hb hts mc_X8 hown hK hG (ga_0 g _) rfl 9 (by decide) hw0 rfl rfl dX8_posts_1 ?_
  refine lv_iconst (v := (4 : Int32)) hx hb dX8_posts_4 (by decide) ?_
  obtain ⟨z1, hc2, h⟩ := bnd_some h
  refine gx_cV (σ' := (mkS σ [(1802, z1.2.1), (1804, z1.2.2.1), (1801, z1.2.2.2.1)] [(1803, z1.2.2.2.2.1)] [(35, z1.2.2.2.2.2.1), (36, z1.2.2.2.2.2.2.1)] [(31, z1.2.2.2.2.2.2.2.1), (33, z1.2.2.2.2.2.2.2.2.1), (32, z1.2.2.2.2.2.2.2.2.2)])) (r := (some (.int z1.1))) (rest := []) (As := [.int (4 : Int32)]) hS9 (c_Td_keepsLawsTo l g (mkS σ [(1802, (σ.1 1802)), (1804, (σ.1 1804)), (1801, (σ.1 1801))] [(1803, (σ.2.1 1803))] [(35, (σ.2.2.1 35)), (36, (σ.2.2.1 36))] [(31, (σ.2.2.2 31)), (33, (σ.2.2.2 33)), (32, (σ.2.2.2 32))]) (4 : Int32) z1.1 z1.2.1 z1.2.2.1 z1.2.2.2.1 z1.2.2.2.2.1 z1.2.2.2.2.2.1 z1.2.2.2.2.2.2.1 z1.2.2.2.2.2.2.2.1 z1.2.2.2.2.2.2.2.2.1 z1.2.2.2.2.2.2.2.2.2 hc2) (mk_mk rfl rfl rfl rfl) (cwV 1 hts (gz_V mw_3_213 mw_3_214 mw_3_215 mw_1_7 mw_3_216) rfl rfl rfl hdV_X6_keepsLawsTo ⟨Nat.le_of_ble_eq_true rfl, Nat.le_of_ble_eq_true rfl⟩) hK hG (ga_28 g _) rfl rfl rfl hl.1 rfl (Nat.le_of_ble_eq_true rfl) dX8_posts_5 (fun H locs hG => ?_)
  refine W.eq (g2 := F0 m 8 ls [.int z1.1]) rfl ?_
  refine lv_if_eq (tgt := 22) hx hb dX8_posts_8 (by decide) (fun c3 => ?_) (fun c3 => ?_)
  · have h := ite_t c3 h
    refine lv_bipush (v := (-6 : Int32)) hx hb dX8_posts_22 (by decide) ?_
    exact n24 (-6 : Int32) z1.2.1 z1.2.2.1 z1.2.2.2.1 z1.2.2.2.2.1 z1.2.2.2.2.2.1 z1.2.2.2.2.2.2.1 z1.2.2.2.2.2.2.2.1 z1.2.2.2.2.2.2.2.2.1 z1.2.2.2.2.2.2.2.2.2 _ _ _ (lv_sub hl [] rfl) hG h
  · have h := ite_f c3 h
    refine lv_aload_n hx hb dX8_posts_11 rfl (lv_at hl 0 rfl) ?_
    refine gx_get (v := .ref (g.2.1 28)) (C := RX8) (T := TX8) (N := 13) hx hb hts mc_X8 hown hK hG (ga_0 g _) rfl 9 (by decide) hw0 rfl rfl dX8_posts_12 ?_
    refine gx_get (v := .long z1.2.2.2.2.1) (C := RX6) (T := TX6) (N := 13) hx hb hts mc_X6 hown hK hG (ga_28 g _) rfl 11 (by decide) hw1 rfl rfl dX8_posts_15 ?_
    refine lv_l2i hx hb dX8_posts_18 rfl ?_
    refine lv_goto (tgt := 24) hx hb dX8_posts_19 (by decide) ?_
    exact n24 (z1.2.2.2.2.1.toInt32) z1.2.1 z1.2.2.1 z1.2.2.2.1 z1.2.2.2.2.1 z1.2.2.2.2.2.1 z1.2.2.2.2.2.2.1 z1.2.2.2.2.2.2.2.1 z1.2.2.2.2.2.2.2.2.1 z1.2.2.2.2.2.2.2.2.2 _ _ _ (lv_sub hl [] rfl) hG h

set_option maxHeartbeats 4000000 in
set_option maxRecDepth 100000 in
theorem c_LN_power (l : Launch) (g : GC) (σ : St) (x1 : Int32) (r : Int32) (w_likeness_ready : Int32) (w_made_size : Int32) (w_now_size : Int32) (w_pairs_ready : Int32) (w_search_reach : Int32) (w_ways_far : Int32) (w_ways_ready : Int32) (w_ways_size : Int32) (w_ways_whole : Int32) (w_made_near : Nat → Int32) (w_now_near : Nat → Int32) (w_ways_layers : Nat → Int32) (w_ways_reached : Nat → Int32) (w_ways_steps : Nat → Int32) (h : LN_power x1 (σ.1 1539) (σ.1 769) (σ.1 641) (σ.1 2632) (σ.1 2372) (σ.1 1286) (σ.1 1283) (σ.1 1285) (σ.1 1284) (σ.2.2.1 13) (σ.2.2.1 11) (σ.2.2.1 22) (σ.2.2.1 23) (σ.2.2.1 21) = some (r, w_likeness_ready, w_made_size, w_now_size, w_pairs_ready, w_search_reach, w_ways_far, w_ways_ready, w_ways_size, w_ways_whole, w_made_near, w_now_near, w_ways_layers, w_ways_reached, w_ways_steps)) : Cn l g yX8_power (Cond.code yX8_power cX8_power 4 (some .int) :: wG) 5 114 [.ref (g.2.1 0), .int x1] σ (some (.int r)) (mkS σ [(1539, w_likeness_ready), (769, w_made_size), (641, w_now_size), (2632, w_pairs_ready), (2372, w_search_reach), (1286, w_ways_far), (1283, w_ways_ready), (1285, w_ways_size), (1284, w_ways_whole)] [] [(13, w_made_near), (11, w_now_near), (22, w_ways_layers), (23, w_ways_reached), (21, w_ways_steps)] []) := by
  unfold Cn
  refine Met.ofW (cc := cX8_power) (maxL := 4) (ret := (some .int)) (by decide) rfl ?_
  intro p e s m args below meth c s₁ B hml hv
  obtain ⟨hargs, hP0, hK⟩ := hv
  have hx := B.exec
  have hb := B.bytes
  have hr := B.returns
  have hts : ∀ w ∈ wG, w.before args s = true := fun w h => atoms_spec (ws := (Cond.code yX8_power cX8_power 4 (some .int) :: wG)) B.pre w (List.mem_cons_of_mem _ h)
  have hown : s.vm.findClass RX8 = some m.cls := findClass_of_methodNamed B.named
  have hlocks := B.notSynchronized
  have hS9 : CallFix p m c cX8_power 4 s args wG RX8 := ⟨hx, hb, hml, hown, hts⟩
  have hw0 := hts _ mw_2_38
  have hw1 := hts _ mw_1_61
  have hw2 := hts _ mw_2_44
  have hw3 := hts _ mw_2_39
  have hf9 : entryFrame m args 4 = _ := (congrArg (fun a => entryFrame m a 4) hargs).trans (lg_entry_eq m [.ref (g.2.1 0), .int x1] 4)
  show Wg p l e 5 114 s m args below meth c g (some (.int r)) (mkS σ [(1539, w_likeness_ready), (769, w_made_size), (641, w_now_size), (2632, w_pairs_ready), (2372, w_search_reach), (1286, w_ways_far), (1283, w_ways_ready), (1285, w_ways_size), (1284, w_ways_whole)] [] [(13, w_made_near), (11, w_now_near), (22, w_ways_layers), (23, w_ways_reached), (21, w_ways_steps)] []) s.heap [] (entryFrame m args 4)
  rw [hf9]
  have hl := lv_entry ([.ref (g.2.1 0), .int x1]) (n := 4) (Nat.le_of_ble_eq_true rfl)
  generalize (lg_sl ([.ref (g.2.1 0), .int x1]) ++ List.replicate (4 - (lg_sl ([.ref (g.2.1 0), .int x1])).length) Slot.unset).toArray = ls at hl ⊢
  have hl : lv_has ls 4 [(0, .ref (g.2.1 0)), (1, .int x1)] := hl
  have hG : GW g s σ s.heap [] := ⟨hP0, va_S.rf⟩
  have hG : GW g s (mkS σ [(1539, (σ.1 1539)), (769, (σ.1 769)), (641, (σ.1 641)), (2632, (σ.1 2632)), (2372, (σ.1 2372)), (1286, (σ.1 1286)), (1283, (σ.1 1283)), (1285, (σ.1 1285)), (1284, (σ.1 1284))] [] [(13, (σ.2.2.1 13)), (11, (σ.2.2.1 11)), (22, (σ.2.2.1 22)), (23, (σ.2.2.1 23)), (21, (σ.2.2.1 21))] []) s.heap [] := GW_self [1539, 769, 641, 2632, 2372, 1286, 1283, 1285, 1284] [] [13, 11, 22, 23, 21] [] hG
  unfold LN_power at h
  have n75 : ∀ (k42 : Int32 → Int32 → Int32 → Int32 → Int32 → Int32 → Int32 → Int32 → Int32 → Int32 → Int32 → Int32 → (Nat → Int32) → (Nat → Int32) → (Nat → Int32) → (Nat → Int32) → (Nat → Int32) → Option (Int32 × Int32 × Int32 × Int32 × Int32 × Int32 × Int32 × Int32 × Int32 × Int32 × (Nat → Int32) × (Nat → Int32) × (Nat → Int32) × (Nat → Int32) × (Nat → Int32))) (hk42 : ∀ (x1 : Int32) (x2 : Int32) (x3 : Int32) (v_likeness_ready : Int32) (v_made_size : Int32) (v_now_size : Int32) (v_pairs_ready : Int32) (v_search_reach : Int32) (v_ways_far : Int32) (v_ways_ready : Int32) (v_ways_size : Int32) (v_ways_whole : Int32) (v_made_near : Nat → Int32) (v_now_near : Nat → Int32) (v_ways_layers : Nat → Int32) (v_ways_reached : Nat → Int32) (v_ways_steps : Nat → Int32) (H : Heap) (locs : List Loc) (ls : Array Slot), lv_has ls 4 [(0, .ref (g.2.1 0)), (1, .int x1), (2, .int x2), (3, .int x3)] → GW g s (mkS σ [(1539, v_likeness_ready), (769, v_made_size), (641, v_now_size), (2632, v_pairs_ready), (2372, v_search_reach), (1286, v_ways_far), (1283, v_ways_ready), (1285, v_ways_size), (1284, v_ways_whole)] [] [(13, v_made_near), (11, v_now_near), (22, v_ways_layers), (23, v_ways_reached), (21, v_ways_steps)] []) H locs → k42 x1 x2 x3 v_likeness_ready v_made_size v_now_size v_pairs_ready v_search_reach v_ways_far v_ways_ready v_ways_size v_ways_whole v_made_near v_now_near v_ways_layers v_ways_reached v_ways_steps = some (r, w_likeness_ready, w_made_size, w_now_size, w_pairs_ready, w_search_reach, w_ways_far, w_ways_ready, w_ways_size, w_ways_whole, w_made_near, w_now_near, w_ways_layers, w_ways_reached, w_ways_steps) → Wg p l e 5 114 s m args below meth c g (some (.int r)) (mkS σ [(1539, w_likeness_ready), (769, w_made_size), (641, w_now_size), (2632, w_pairs_ready), (2372, w_search_reach), (1286, w_ways_far), (1283, w_ways_ready), (1285, w_ways_size), (1284, w_ways_whole)] [] [(13, w_made_near), (11, w_now_near), (22, w_ways_layers), (23, w_ways_reached), (21, w_ways_steps)] []) H locs (F0 m 42 ls [])) (x1 : Int32) (x2 : Int32) (x3 : Int32) (v_likeness_ready : Int32) (v_made_size : Int32) (v_now_size : Int32) (v_pairs_ready : Int32) (v_search_reach : Int32) (v_ways_far : Int32) (v_ways_ready : Int32) (v_ways_size : Int32) (v_ways_whole : Int32) (v_made_near : Nat → Int32) (v_now_near : Nat → Int32) (v_ways_layers : Nat → Int32) (v_ways_reached : Nat → Int32) (v_ways_steps : Nat → Int32) (H : Heap) (locs : List Loc) (ls : Array Slot), lv_has ls 4 [(0, .ref (g.2.1 0)), (1, .int x1), (2, .int x2), (3, .int x3)] → GW g s (mkS σ [(1539, v_likeness_ready), (769, v_made_size), (641, v_now_size), (2632, v_pairs_ready), (2372, v_search_reach), (1286, v_ways_far), (1283, v_ways_ready), (1285, v_ways_size), (1284, v_ways_whole)] [] [(13, v_made_near), (11, v_now_near), (22, v_ways_layers), (23, v_ways_reached), (21, v_ways_steps)] []) H locs → LN_power_n75 k42 x1 x2 x3 v_likeness_ready v_made_size v_now_size v_pairs_ready v_search_reach v_ways_far v_ways_ready v_ways_size v_ways_whole v_made_near v_now_near v_ways_layers v_ways_reached v_ways_steps = some (r, w_likeness_ready, w_made_size, w_now_size, w_pairs_ready, w_search_reach, w_ways_far, w_ways_ready, w_ways_size, w_ways_whole, w_made_near, w_now_near, w_ways_layers, w_ways_reached, w_ways_steps) → Wg p l e 5 114 s m args below meth c g (some (.int r)) (mkS σ [(1539, w_likeness_ready), (769, w_made_size), (641, w_now_size), (2632, w_pairs_ready), (2372, w_search_reach), (1286, w_ways_far), (1283, w_ways_ready), (1285, w_ways_size), (1284, w_ways_whole)] [] [(13, w_made_near), (11, w_now_near), (22, w_ways_layers), (23, w_ways_reached), (21, w_ways_steps)] []) H locs (F0 m 75 ls []) := by
    intro k42 hk42 x1 x2 x3 v_likeness_ready v_made_size v_now_size v_pairs_ready v_search_reach v_ways_far v_ways_ready v_ways_size v_ways_whole v_made_near v_now_near v_ways_layers v_ways_reached v_ways_steps H locs ls hl hG h
    unfold LN_power_n75 at h
    refine lv_iinc (v := (x3 + (1 : Int32))) (lv' := [(3, .int (x3 + (1 : Int32))), (0, .ref (g.2.1 0)), (1, .int x1), (2, .int x2)]) hx hb dX8_power_75 hl (k := 3) rfl (congrArg (fun z => x3 + z) (by decide)) (Nat.le_of_ble_eq_true rfl) rfl (fun ls hl => ?_)
    refine lv_goto (tgt := 42) hx hb dX8_power_78 (by decide) ?_
    exact hk42 x1 x2 (x3 + (1 : Int32)) v_likeness_ready v_made_size v_now_size v_pairs_ready v_search_reach v_ways_far v_ways_ready v_ways_size v_ways_whole v_made_near v_now_near v_ways_layers v_ways_reached v_ways_steps _ _ _ (lv_sub hl [1, 2, 3, 0] rfl) hG h
  have n81 : ∀ (k27 : Int32 → Int32 → Int32 → Int32 → Int32 → Int32 → Int32 → Int32 → Int32 → Int32 → Int32 → (Nat → Int32) → (Nat → Int32) → (Nat → Int32) → (Nat → Int32) → (Nat → Int32) → Option (Int32 × Int32 × Int32 × Int32 × Int32 × Int32 × Int32 × Int32 × Int32 × Int32 × (Nat → Int32) × (Nat → Int32) × (Nat → Int32) × (Nat → Int32) × (Nat → Int32))) (hk27 : ∀ (x1 : Int32) (x2 : Int32) (v_likeness_ready : Int32) (v_made_size : Int32) (v_now_size : Int32) (v_pairs_ready : Int32) (v_search_reach : Int32) (v_ways_far : Int32) (v_ways_ready : Int32) (v_ways_size : Int32) (v_ways_whole : Int32) (v_made_near : Nat → Int32) (v_now_near : Nat → Int32) (v_ways_layers : Nat → Int32) (v_ways_reached : Nat → Int32) (v_ways_steps : Nat → Int32) (H : Heap) (locs : List Loc) (ls : Array Slot), lv_has ls 4 [(0, .ref (g.2.1 0)), (1, .int x1), (2, .int x2)] → GW g s (mkS σ [(1539, v_likeness_ready), (769, v_made_size), (641, v_now_size), (2632, v_pairs_ready), (2372, v_search_reach), (1286, v_ways_far), (1283, v_ways_ready), (1285, v_ways_size), (1284, v_ways_whole)] [] [(13, v_made_near), (11, v_now_near), (22, v_ways_layers), (23, v_ways_reached), (21, v_ways_steps)] []) H locs → k27 x1 x2 v_likeness_ready v_made_size v_now_size v_pairs_ready v_search_reach v_ways_far v_ways_ready v_ways_size v_ways_whole v_made_near v_now_near v_ways_layers v_ways_reached v_ways_steps = some (r, w_likeness_ready, w_made_size, w_now_size, w_pairs_ready, w_search_reach, w_ways_far, w_ways_ready, w_ways_size, w_ways_whole, w_made_near, w_now_near, w_ways_layers, w_ways_reached, w_ways_steps) → Wg p l e 5 114 s m args below meth c g (some (.int r)) (mkS σ [(1539, w_likeness_ready), (769, w_made_size), (641, w_now_size), (2632, w_pairs_ready), (2372, w_search_reach), (1286, w_ways_far), (1283, w_ways_ready), (1285, w_ways_size), (1284, w_ways_whole)] [] [(13, w_made_near), (11, w_now_near), (22, w_ways_layers), (23, w_ways_reached), (21, w_ways_steps)] []) H locs (F0 m 27 ls [])) (x1 : Int32) (x2 : Int32) (v_likeness_ready : Int32) (v_made_size : Int32) (v_now_size : Int32) (v_pairs_ready : Int32) (v_search_reach : Int32) (v_ways_far : Int32) (v_ways_ready : Int32) (v_ways_size : Int32) (v_ways_whole : Int32) (v_made_near : Nat → Int32) (v_now_near : Nat → Int32) (v_ways_layers : Nat → Int32) (v_ways_reached : Nat → Int32) (v_ways_steps : Nat → Int32) (H : Heap) (locs : List Loc) (ls : Array Slot), lv_has ls 4 [(0, .ref (g.2.1 0)), (1, .int x1), (2, .int x2)] → GW g s (mkS σ [(1539, v_likeness_ready), (769, v_made_size), (641, v_now_size), (2632, v_pairs_ready), (2372, v_search_reach), (1286, v_ways_far), (1283, v_ways_ready), (1285, v_ways_size), (1284, v_ways_whole)] [] [(13, v_made_near), (11, v_now_near), (22, v_ways_layers), (23, v_ways_reached), (21, v_ways_steps)] []) H locs → LN_power_n81 k27 x1 x2 v_likeness_ready v_made_size v_now_size v_pairs_ready v_search_reach v_ways_far v_ways_ready v_ways_size v_ways_whole v_made_near v_now_near v_ways_layers v_ways_reached v_ways_steps = some (r, w_likeness_ready, w_made_size, w_now_size, w_pairs_ready, w_search_reach, w_ways_far, w_ways_ready, w_ways_size, w_ways_whole, w_made_near, w_now_near, w_ways_layers, w_ways_reached, w_ways_steps) → Wg p l e 5 114 s m args below meth c g (some (.int r)) (mkS σ [(1539, w_likeness_ready), (769, w_made_size), (641, w_now_size), (2632, w_pairs_ready), (2372, w_search_reach), (1286, w_ways_far), (1283, w_ways_ready), (1285, w_ways_size), (1284, w_ways_whole)] [] [(13, w_made_near), (11, w_now_near), (22, w_ways_layers), (23, w_ways_reached), (21, w_ways_steps)] []) H locs (F0 m 81 ls []) := by
    intro k27 hk27 x1 x2 v_likeness_ready v_made_size v_now_size v_pairs_ready v_search_reach v_ways_far v_ways_ready v_ways_size v_ways_whole v_made_near v_now_near v_ways_layers v_ways_reached v_ways_steps H locs ls hl hG h
    unfold LN_power_n81 at h
    refine lv_iinc (v := (x2 + (1 : Int32))) (lv' := [(2, .int (x2 + (1 : Int32))), (0, .ref (g.2.1 0)), (1, .int x1)]) hx hb dX8_power_81 hl (k := 2) rfl (congrArg (fun z => x2 + z) (by decide)) (Nat.le_of_ble_eq_true rfl) rfl (fun ls hl => ?_)
    refine lv_goto (tgt := 27) hx hb dX8_power_84 (by decide) ?_
    exact hk27 x1 (x2 + (1 : Int32)) v_likeness_ready v_made_size v_now_size v_pairs_ready v_search_reach v_ways_far v_ways_ready v_ways_size v_ways_whole v_made_near v_now_near v_ways_layers v_ways_reached v_ways_steps _ _ _ (lv_sub hl [1, 2, 0] rfl) hG h
  have n42 : ∀ (k27 : Int32 → Int32 → Int32 → Int32 → Int32 → Int32 → Int32 → Int32 → Int32 → Int32 → Int32 → (Nat → Int32) → (Nat → Int32) → (Nat → Int32) → (Nat → Int32) → (Nat → Int32) → Option (Int32 × Int32 × Int32 × Int32 × Int32 × Int32 × Int32 × Int32 × Int32 × Int32 × (Nat → Int32) × (Nat → Int32) × (Nat → Int32) × (Nat → Int32) × (Nat → Int32))) (hk27 : ∀ (x1 : Int32) (x2 : Int32) (v_likeness_ready : Int32) (v_made_size : Int32) (v_now_size : Int32) (v_pairs_ready : Int32) (v_search_reach : Int32) (v_ways_far : Int32) (v_ways_ready : Int32) (v_ways_size : Int32) (v_ways_whole : Int32) (v_made_near : Nat → Int32) (v_now_near : Nat → Int32) (v_ways_layers : Nat → Int32) (v_ways_reached : Nat → Int32) (v_ways_steps : Nat → Int32) (H : Heap) (locs : List Loc) (ls : Array Slot), lv_has ls 4 [(0, .ref (g.2.1 0)), (1, .int x1), (2, .int x2)] → GW g s (mkS σ [(1539, v_likeness_ready), (769, v_made_size), (641, v_now_size), (2632, v_pairs_ready), (2372, v_search_reach), (1286, v_ways_far), (1283, v_ways_ready), (1285, v_ways_size), (1284, v_ways_whole)] [] [(13, v_made_near), (11, v_now_near), (22, v_ways_layers), (23, v_ways_reached), (21, v_ways_steps)] []) H locs → k27 x1 x2 v_likeness_ready v_made_size v_now_size v_pairs_ready v_search_reach v_ways_far v_ways_ready v_ways_size v_ways_whole v_made_near v_now_near v_ways_layers v_ways_reached v_ways_steps = some (r, w_likeness_ready, w_made_size, w_now_size, w_pairs_ready, w_search_reach, w_ways_far, w_ways_ready, w_ways_size, w_ways_whole, w_made_near, w_now_near, w_ways_layers, w_ways_reached, w_ways_steps) → Wg p l e 5 114 s m args below meth c g (some (.int r)) (mkS σ [(1539, w_likeness_ready), (769, w_made_size), (641, w_now_size), (2632, w_pairs_ready), (2372, w_search_reach), (1286, w_ways_far), (1283, w_ways_ready), (1285, w_ways_size), (1284, w_ways_whole)] [] [(13, w_made_near), (11, w_now_near), (22, w_ways_layers), (23, w_ways_reached), (21, w_ways_steps)] []) H locs (F0 m 27 ls [])) (k42 : Int32 → Int32 → Int32 → Int32 → Int32 → Int32 → Int32 → Int32 → Int32 → Int32 → Int32 → Int32 → (Nat → Int32) → (Nat → Int32) → (Nat → Int32) → (Nat → Int32) → (Nat → Int32) → Option (Int32 × Int32 × Int32 × Int32 × Int32 × Int32 × Int32 × Int32 × Int32 × Int32 × (Nat → Int32) × (Nat → Int32) × (Nat → Int32) × (Nat → Int32) × (Nat → Int32))) (hk42 : ∀ (x1 : Int32) (x2 : Int32) (x3 : Int32) (v_likeness_ready : Int32) (v_made_size : Int32) (v_now_size : Int32) (v_pairs_ready : Int32) (v_search_reach : Int32) (v_ways_far : Int32) (v_ways_ready : Int32) (v_ways_size : Int32) (v_ways_whole : Int32) (v_made_near : Nat → Int32) (v_now_near : Nat → Int32) (v_ways_layers : Nat → Int32) (v_ways_reached : Nat → Int32) (v_ways_steps : Nat → Int32) (H : Heap) (locs : List Loc) (ls : Array Slot), lv_has ls 4 [(0, .ref (g.2.1 0)), (1, .int x1), (2, .int x2), (3, .int x3)] → GW g s (mkS σ [(1539, v_likeness_ready), (769, v_made_size), (641, v_now_size), (2632, v_pairs_ready), (2372, v_search_reach), (1286, v_ways_far), (1283, v_ways_ready), (1285, v_ways_size), (1284, v_ways_whole)] [] [(13, v_made_near), (11, v_now_near), (22, v_ways_layers), (23, v_ways_reached), (21, v_ways_steps)] []) H locs → k42 x1 x2 x3 v_likeness_ready v_made_size v_now_size v_pairs_ready v_search_reach v_ways_far v_ways_ready v_ways_size v_ways_whole v_made_near v_now_near v_ways_layers v_ways_reached v_ways_steps = some (r, w_likeness_ready, w_made_size, w_now_size, w_pairs_ready, w_search_reach, w_ways_far, w_ways_ready, w_ways_size, w_ways_whole, w_made_near, w_now_near, w_ways_layers, w_ways_reached, w_ways_steps) → Wg p l e 5 114 s m args below meth c g (some (.int r)) (mkS σ [(1539, w_likeness_ready), (769, w_made_size), (641, w_now_size), (2632, w_pairs_ready), (2372, w_search_reach), (1286, w_ways_far), (1283, w_ways_ready), (1285, w_ways_size), (1284, w_ways_whole)] [] [(13, w_made_near), (11, w_now_near), (22, w_ways_layers), (23, w_ways_reached), (21, w_ways_steps)] []) H locs (F0 m 42 ls [])) (x1 : Int32) (x2 : Int32) (x3 : Int32) (v_likeness_ready : Int32) (v_made_size : Int32) (v_now_size : Int32) (v_pairs_ready : Int32) (v_search_reach : Int32) (v_ways_far : Int32) (v_ways_ready : Int32) (v_ways_size : Int32) (v_ways_whole : Int32) (v_made_near : Nat → Int32) (v_now_near : Nat → Int32) (v_ways_layers : Nat → Int32) (v_ways_reached : Nat → Int32) (v_ways_steps : Nat → Int32) (H : Heap) (locs : List Loc) (ls : Array Slot), lv_has ls 4 [(0, .ref (g.2.1 0)), (1, .int x1), (2, .int x2), (3, .int x3)] → GW g s (mkS σ [(1539, v_likeness_ready), (769, v_made_size), (641, v_now_size), (2632, v_pairs_ready), (2372, v_search_reach), (1286, v_ways_far), (1283, v_ways_ready), (1285, v_ways_size), (1284, v_ways_whole)] [] [(13, v_made_near), (11, v_now_near), (22, v_ways_layers), (23, v_ways_reached), (21, v_ways_steps)] []) H locs → LN_power_n42 k27 k42 x1 x2 x3 v_likeness_ready v_made_size v_now_size v_pairs_ready v_search_reach v_ways_far v_ways_ready v_ways_size v_ways_whole v_made_near v_now_near v_ways_layers v_ways_reached v_ways_steps = some (r, w_likeness_ready, w_made_size, w_now_size, w_pairs_ready, w_search_reach, w_ways_far, w_ways_ready, w_ways_size, w_ways_whole, w_made_near, w_now_near, w_ways_layers, w_ways_reached, w_ways_steps) → Wg p l e 5 114 s m args below meth c g (some (.int r)) (mkS σ [(1539, w_likeness_ready), (769, w_made_size), (641, w_now_size), (2632, w_pairs_ready), (2372, w_search_reach), (1286, w_ways_far), (1283, w_ways_ready), (1285, w_ways_size), (1284, w_ways_whole)] [] [(13, w_made_near), (11, w_now_near), (22, w_ways_layers), (23, w_ways_reached), (21, w_ways_steps)] []) H locs (F0 m 42 ls []) := by
    intro k27 hk27 k42 hk42 x1 x2 x3 v_likeness_ready v_made_size v_now_size v_pairs_ready v_search_reach v_ways_far v_ways_ready v_ways_size v_ways_whole v_made_near v_now_near v_ways_layers v_ways_reached v_ways_steps H locs ls hl hG h
    unfold LN_power_n42 at h
    refine lv_iload_n hx hb dX8_power_42 rfl (lv_at hl 3 rfl) ?_
    refine lv_aload_n hx hb dX8_power_43 rfl (lv_at hl 0 rfl) ?_
    refine gx_get (v := .ref (g.2.1 10)) (C := RX8) (T := TX8) (N := 13) hx hb hts mc_X8 hown hK hG (ga_0 g _) rfl 1 (by decide) hw0 rfl rfl dX8_power_44 ?_
    refine gx_get (v := .int v_now_size) (C := RX2) (T := TX2) (N := 2) hx hb hts mc_X2 hown hK hG (ga_10 g _) rfl 1 (by decide) hw1 rfl rfl dX8_power_47 ?_
    refine lv_icmp_ge (tgt := 81) hx hb dX8_power_50 (by decide) (fun c1 => ?_) (fun c1 => ?_)
    · have h := ite_t c1 h
      exact n81 k27 hk27 x1 x2 v_likeness_ready v_made_size v_now_size v_pairs_ready v_search_reach v_ways_far v_ways_ready v_ways_size v_ways_whole v_made_near v_now_near v_ways_layers v_ways_reached v_ways_steps _ _ _ (lv_sub hl [0, 1, 2] rfl) hG h
    · have h := ite_f c1 h
      refine lv_aload_n hx hb dX8_power_53 rfl (lv_at hl 0 rfl) ?_
      refine gx_get (v := .ref (g.2.1 20)) (C := RX8) (T := TX8) (N := 13) hx hb hts mc_X8 hown hK hG (ga_0 g _) rfl 7 (by decide) hw2 rfl rfl dX8_power_54 ?_
      refine lv_iload_n hx hb dX8_power_57 rfl (lv_at hl 2 rfl) ?_
      refine lv_iload_n hx hb dX8_power_58 rfl (lv_at hl 3 rfl) ?_
      obtain ⟨z2, hc3, h⟩ := bnd_some h
      refine gx_cV (σ' := (mkS σ [(1539, v_likeness_ready), (769, v_made_size), (641, v_now_size), (2632, v_pairs_ready), (2372, v_search_reach), (1286, v_ways_far), (1283, v_ways_ready), (1285, v_ways_size), (1284, v_ways_whole)] [] [(13, v_made_near), (11, v_now_near), (22, v_ways_layers), (23, v_ways_reached), (21, v_ways_steps)] [])) (r := (some (.int z2))) (rest := []) (As := [.int x2, .int x3]) hS9 (c_Wy_between l g (mkS σ [(1539, v_likeness_ready), (769, v_made_size), (641, v_now_size), (2632, v_pairs_ready), (2372, v_search_reach), (1286, v_ways_far), (1283, v_ways_ready), (1285, v_ways_size), (1284, v_ways_whole)] [] [(13, v_made_near), (11, v_now_near), (22, v_ways_layers), (23, v_ways_reached), (21, v_ways_steps)] []) x2 x3 z2 hc3) rfl (cwV 2 hts (gz_V mw_3_33 mw_3_34 mw_3_35 mw_1_5 mw_3_36) rfl rfl rfl hdV_X7_between ⟨Nat.le_of_ble_eq_true rfl, Nat.le_of_ble_eq_true rfl⟩) hK hG (ga_20 g _) rfl rfl rfl hl.1 rfl (Nat.le_of_ble_eq_true rfl) dX8_power_59 (fun H locs hG => ?_)
      refine W.eq (g2 := F0 m 62 ls [.int z2]) rfl ?_
      refine lv_iload_n hx hb dX8_power_62 rfl (lv_at hl 1 rfl) ?_
      refine lv_icmp_ne (tgt := 75) hx hb dX8_power_63 (by decide) (fun c4 => ?_) (fun c4 => ?_)
      · have h := ite_f c4 h
        exact n75 k42 hk42 x1 x2 x3 v_likeness_ready v_made_size v_now_size v_pairs_ready v_search_reach v_ways_far v_ways_ready v_ways_size v_ways_whole v_made_near v_now_near v_ways_layers v_ways_reached v_ways_steps _ _ _ (lv_sub hl [0, 1, 2, 3] rfl) hG h
      · have h := ite_t c4 h
        refine lv_aload_n hx hb dX8_power_66 rfl (lv_at hl 0 rfl) ?_
        refine gx_get (v := .ref (g.2.1 12)) (C := RX8) (T := TX8) (N := 13) hx hb hts mc_X8 hown hK hG (ga_0 g _) rfl 2 (by decide) hw3 rfl rfl dX8_power_67 ?_
        refine lv_iload_n hx hb dX8_power_70 rfl (lv_at hl 2 rfl) ?_
        refine lv_iload_n hx hb dX8_power_71 rfl (lv_at hl 3 rfl) ?_
        obtain ⟨z5, hc6, h⟩ := bnd_some h
        refine gx_cV (σ' := (mkS σ [(1539, v_likeness_ready), (769, v_made_size), (641, v_now_size), (2632, v_pairs_ready), (2372, v_search_reach), (1286, v_ways_far), (1283, v_ways_ready), (1285, v_ways_size), (1284, v_ways_whole)] [] [(13, z5), (11, v_now_near), (22, v_ways_layers), (23, v_ways_reached), (21, v_ways_steps)] [])) (r := none) (rest := []) (As := [.int x2, .int x3]) hS9 (c_Net_join_12 l g (mkS σ [(1539, v_likeness_ready), (769, v_made_size), (641, v_now_size), (2632, v_pairs_ready), (2372, v_search_reach), (1286, v_ways_far), (1283, v_ways_ready), (1285, v_ways_size), (1284, v_ways_whole)] [] [(13, v_made_near), (11, v_now_near), (22, v_ways_layers), (23, v_ways_reached), (21, v_ways_steps)] []) x2 x3 z5 hc6) (mk_mk rfl rfl rfl rfl) (cwV 2 hts (gz_V mw_2_137 mw_2_138 mw_2_139 mw_1_3 mw_2_140) rfl rfl rfl hdV_X2_join ⟨Nat.le_of_ble_eq_true rfl, Nat.le_of_ble_eq_true rfl⟩) hK hG (ga_12 g _) rfl rfl rfl hl.1 rfl (Nat.le_of_ble_eq_true rfl) dX8_power_72 (fun H locs hG => ?_)
        refine W.eq (g2 := F0 m 75 ls []) rfl ?_
        exact n75 k42 hk42 x1 x2 x3 v_likeness_ready v_made_size v_now_size v_pairs_ready v_search_reach v_ways_far v_ways_ready v_ways_size v_ways_whole z5 v_now_near v_ways_layers v_ways_reached v_ways_steps _ _ _ (lv_sub hl [0, 1, 2, 3] rfl) hG h
  have l42 : ∀ (k27 : Int32 → Int32 → Int32 → Int32 → Int32 → Int32 → Int32 → Int32 → Int32 → Int32 → Int32 → (Nat → Int32) → (Nat → Int32) → (Nat → Int32) → (Nat → Int32) → (Nat → Int32) → Option (Int32 × Int32 × Int32 × Int32 × Int32 × Int32 × Int32 × Int32 × Int32 × Int32 × (Nat → Int32) × (Nat → Int32) × (Nat → Int32) × (Nat → Int32) × (Nat → Int32))) (hk27 : ∀ (x1 : Int32) (x2 : Int32) (v_likeness_ready : Int32) (v_made_size : Int32) (v_now_size : Int32) (v_pairs_ready : Int32) (v_search_reach : Int32) (v_ways_far : Int32) (v_ways_ready : Int32) (v_ways_size : Int32) (v_ways_whole : Int32) (v_made_near : Nat → Int32) (v_now_near : Nat → Int32) (v_ways_layers : Nat → Int32) (v_ways_reached : Nat → Int32) (v_ways_steps : Nat → Int32) (H : Heap) (locs : List Loc) (ls : Array Slot), lv_has ls 4 [(0, .ref (g.2.1 0)), (1, .int x1), (2, .int x2)] → GW g s (mkS σ [(1539, v_likeness_ready), (769, v_made_size), (641, v_now_size), (2632, v_pairs_ready), (2372, v_search_reach), (1286, v_ways_far), (1283, v_ways_ready), (1285, v_ways_size), (1284, v_ways_whole)] [] [(13, v_made_near), (11, v_now_near), (22, v_ways_layers), (23, v_ways_reached), (21, v_ways_steps)] []) H locs → k27 x1 x2 v_likeness_ready v_made_size v_now_size v_pairs_ready v_search_reach v_ways_far v_ways_ready v_ways_size v_ways_whole v_made_near v_now_near v_ways_layers v_ways_reached v_ways_steps = some (r, w_likeness_ready, w_made_size, w_now_size, w_pairs_ready, w_search_reach, w_ways_far, w_ways_ready, w_ways_size, w_ways_whole, w_made_near, w_now_near, w_ways_layers, w_ways_reached, w_ways_steps) → Wg p l e 5 114 s m args below meth c g (some (.int r)) (mkS σ [(1539, w_likeness_ready), (769, w_made_size), (641, w_now_size), (2632, w_pairs_ready), (2372, w_search_reach), (1286, w_ways_far), (1283, w_ways_ready), (1285, w_ways_size), (1284, w_ways_whole)] [] [(13, w_made_near), (11, w_now_near), (22, w_ways_layers), (23, w_ways_reached), (21, w_ways_steps)] []) H locs (F0 m 27 ls [])) (F : Nat) (x1 : Int32) (x2 : Int32) (x3 : Int32) (v_likeness_ready : Int32) (v_made_size : Int32) (v_now_size : Int32) (v_pairs_ready : Int32) (v_search_reach : Int32) (v_ways_far : Int32) (v_ways_ready : Int32) (v_ways_size : Int32) (v_ways_whole : Int32) (v_made_near : Nat → Int32) (v_now_near : Nat → Int32) (v_ways_layers : Nat → Int32) (v_ways_reached : Nat → Int32) (v_ways_steps : Nat → Int32) (H : Heap) (locs : List Loc) (ls : Array Slot), lv_has ls 4 [(0, .ref (g.2.1 0)), (1, .int x1), (2, .int x2), (3, .int x3)] → GW g s (mkS σ [(1539, v_likeness_ready), (769, v_made_size), (641, v_now_size), (2632, v_pairs_ready), (2372, v_search_reach), (1286, v_ways_far), (1283, v_ways_ready), (1285, v_ways_size), (1284, v_ways_whole)] [] [(13, v_made_near), (11, v_now_near), (22, v_ways_layers), (23, v_ways_reached), (21, v_ways_steps)] []) H locs → LN_power_l42 k27 F x1 x2 x3 v_likeness_ready v_made_size v_now_size v_pairs_ready v_search_reach v_ways_far v_ways_ready v_ways_size v_ways_whole v_made_near v_now_near v_ways_layers v_ways_reached v_ways_steps = some (r, w_likeness_ready, w_made_size, w_now_size, w_pairs_ready, w_search_reach, w_ways_far, w_ways_ready, w_ways_size, w_ways_whole, w_made_near, w_now_near, w_ways_layers, w_ways_reached, w_ways_steps) → Wg p l e 5 114 s m args below meth c g (some (.int r)) (mkS σ [(1539, w_likeness_ready), (769, w_made_size), (641, w_now_size), (2632, w_pairs_ready), (2372, w_search_reach), (1286, w_ways_far), (1283, w_ways_ready), (1285, w_ways_size), (1284, w_ways_whole)] [] [(13, w_made_near), (11, w_now_near), (22, w_ways_layers), (23, w_ways_reached), (21, w_ways_steps)] []) H locs (F0 m 42 ls []) := by
    intro k27 hk27 F
    induction F with
    | zero => intro x1 x2 x3 v_likeness_ready v_made_size v_now_size v_pairs_ready v_search_reach v_ways_far v_ways_ready v_ways_size v_ways_whole v_made_near v_now_near v_ways_layers v_ways_reached v_ways_steps H locs ls hl hG h; exact no_some h
    | succ F ih => intro x1 x2 x3 v_likeness_ready v_made_size v_now_size v_pairs_ready v_search_reach v_ways_far v_ways_ready v_ways_size v_ways_whole v_made_near v_now_near v_ways_layers v_ways_reached v_ways_steps H locs ls hl hG h; exact n42 k27 hk27 (fun x1 x2 x3 v_likeness_ready v_made_size v_now_size v_pairs_ready v_search_reach v_ways_far v_ways_ready v_ways_size v_ways_whole v_made_near v_now_near v_ways_layers v_ways_reached v_ways_steps => LN_power_l42 k27 F x1 x2 x3 v_likeness_ready v_made_size v_now_size v_pairs_ready v_search_reach v_ways_far v_ways_ready v_ways_size v_ways_whole v_made_near v_now_near v_ways_layers v_ways_reached v_ways_steps) ih x1 x2 x3 v_likeness_ready v_made_size v_now_size v_pairs_ready v_search_reach v_ways_far v_ways_ready v_ways_size v_ways_whole v_made_near v_now_near v_ways_layers v_ways_reached v_ways_steps H locs ls hl hG h
  have n87 : ∀ (v_likeness_ready : Int32) (v_made_size : Int32) (v_now_size : Int32) (v_pairs_ready : Int32) (v_search_reach : Int32) (v_ways_far : Int32) (v_ways_ready : Int32) (v_ways_size : Int32) (v_ways_whole : Int32) (v_made_near : Nat → Int32) (v_now_near : Nat → Int32) (v_ways_layers : Nat → Int32) (v_ways_reached : Nat → Int32) (v_ways_steps : Nat → Int32) (H : Heap) (locs : List Loc) (ls : Array Slot), lv_has ls 4 [(0, .ref (g.2.1 0))] → GW g s (mkS σ [(1539, v_likeness_ready), (769, v_made_size), (641, v_now_size), (2632, v_pairs_ready), (2372, v_search_reach), (1286, v_ways_far), (1283, v_ways_ready), (1285, v_ways_size), (1284, v_ways_whole)] [] [(13, v_made_near), (11, v_now_near), (22, v_ways_layers), (23, v_ways_reached), (21, v_ways_steps)] []) H locs → LN_power_n87 v_likeness_ready v_made_size v_now_size v_pairs_ready v_search_reach v_ways_far v_ways_ready v_ways_size v_ways_whole v_made_near v_now_near v_ways_layers v_ways_reached v_ways_steps = some (r, w_likeness_ready, w_made_size, w_now_size, w_pairs_ready, w_search_reach, w_ways_far, w_ways_ready, w_ways_size, w_ways_whole, w_made_near, w_now_near, w_ways_layers, w_ways_reached, w_ways_steps) → Wg p l e 5 114 s m args below meth c g (some (.int r)) (mkS σ [(1539, w_likeness_ready), (769, w_made_size), (641, w_now_size), (2632, w_pairs_ready), (2372, w_search_reach), (1286, w_ways_far), (1283, w_ways_ready), (1285, w_ways_size), (1284, w_ways_whole)] [] [(13, w_made_near), (11, w_now_near), (22, w_ways_layers), (23, w_ways_reached), (21, w_ways_steps)] []) H locs (F0 m 87 ls []) := by
    intro v_likeness_ready v_made_size v_now_size v_pairs_ready v_search_reach v_ways_far v_ways_ready v_ways_size v_ways_whole v_made_near v_now_near v_ways_layers v_ways_reached v_ways_steps H locs ls hl hG h
    unfold LN_power_n87 at h
    refine lv_aload_n hx hb dX8_power_87 rfl (lv_at hl 0 rfl) ?_
    obtain ⟨z7, hc8, h⟩ := bnd_some h
    refine gx_cV (σ' := (mkS σ [(1539, z7.2.1), (769, v_made_size), (641, z7.2.2.1), (2632, z7.2.2.2.1), (2372, z7.2.2.2.2.1), (1286, v_ways_far), (1283, z7.2.2.2.2.2.1), (1285, v_ways_size), (1284, v_ways_whole)] [] [(13, v_made_near), (11, z7.2.2.2.2.2.2), (22, v_ways_layers), (23, v_ways_reached), (21, v_ways_steps)] [])) (r := (some (.int z7.1))) (rest := []) (As := []) hS9 (c_LN_adopt l g (mkS σ [(1539, v_likeness_ready), (769, v_made_size), (641, v_now_size), (2632, v_pairs_ready), (2372, v_search_reach), (1286, v_ways_far), (1283, v_ways_ready), (1285, v_ways_size), (1284, v_ways_whole)] [] [(13, v_made_near), (11, v_now_near), (22, v_ways_layers), (23, v_ways_reached), (21, v_ways_steps)] []) z7.1 z7.2.1 z7.2.2.1 z7.2.2.2.1 z7.2.2.2.2.1 z7.2.2.2.2.2.1 z7.2.2.2.2.2.2 hc8) (mk_mk rfl rfl rfl rfl) (cwV 0 hts (gz_V mw_2_229 mw_2_231 ms_1_5 mw_1_1 mw_2_232) rfl rfl rfl hdV_X8_adopt ⟨Nat.le_of_ble_eq_true rfl, Nat.le_of_ble_eq_true rfl⟩) hK hG (ga_0 g _) rfl rfl rfl hl.1 rfl (Nat.le_of_ble_eq_true rfl) dX8_power_88 (fun H locs hG => ?_)
    refine W.eq (g2 := F0 m 91 ls [.int z7.1]) rfl ?_
    refine lv_pop hx hb dX8_power_91 rfl ?_
    refine lv_aload_n hx hb dX8_power_92 rfl (lv_at hl 0 rfl) ?_
    refine gx_get (v := .ref (g.2.1 10)) (C := RX8) (T := TX8) (N := 13) hx hb hts mc_X8 hown hK hG (ga_0 g _) rfl 1 (by decide) hw0 rfl rfl dX8_power_93 ?_
    obtain ⟨z9, hc10, h⟩ := bnd_some h
    refine gx_cV (σ' := (mkS σ [(1539, z7.2.1), (769, v_made_size), (641, z7.2.2.1), (2632, z7.2.2.2.1), (2372, z7.2.2.2.2.1), (1286, v_ways_far), (1283, z7.2.2.2.2.2.1), (1285, v_ways_size), (1284, v_ways_whole)] [] [(13, v_made_near), (11, z7.2.2.2.2.2.2), (22, v_ways_layers), (23, v_ways_reached), (21, v_ways_steps)] [])) (r := (some (.int z9))) (rest := []) (As := []) hS9 (c_Net_roads_10 l g (mkS σ [(1539, z7.2.1), (769, v_made_size), (641, z7.2.2.1), (2632, z7.2.2.2.1), (2372, z7.2.2.2.2.1), (1286, v_ways_far), (1283, z7.2.2.2.2.2.1), (1285, v_ways_size), (1284, v_ways_whole)] [] [(13, v_made_near), (11, z7.2.2.2.2.2.2), (22, v_ways_layers), (23, v_ways_reached), (21, v_ways_steps)] []) z9 hc10) rfl (cwV 0 hts (gz_V mw_2_160 mw_2_161 mw_2_162 mw_1_3 mw_2_163) rfl rfl rfl hdV_X2_roads ⟨Nat.le_of_ble_eq_true rfl, Nat.le_of_ble_eq_true rfl⟩) hK hG (ga_10 g _) rfl rfl rfl hl.1 rfl (Nat.le_of_ble_eq_true rfl) dX8_power_96 (fun H locs hG => ?_)
    refine W.eq (g2 := F0 m 99 ls [.int z9]) rfl ?_
    cases h
    exact gx_iret hx hb hr hlocks hG dX8_power_99
  have n27 : ∀ (k27 : Int32 → Int32 → Int32 → Int32 → Int32 → Int32 → Int32 → Int32 → Int32 → Int32 → Int32 → (Nat → Int32) → (Nat → Int32) → (Nat → Int32) → (Nat → Int32) → (Nat → Int32) → Option (Int32 × Int32 × Int32 × Int32 × Int32 × Int32 × Int32 × Int32 × Int32 × Int32 × (Nat → Int32) × (Nat → Int32) × (Nat → Int32) × (Nat → Int32) × (Nat → Int32))) (hk27 : ∀ (x1 : Int32) (x2 : Int32) (v_likeness_ready : Int32) (v_made_size : Int32) (v_now_size : Int32) (v_pairs_ready : Int32) (v_search_reach : Int32) (v_ways_far : Int32) (v_ways_ready : Int32) (v_ways_size : Int32) (v_ways_whole : Int32) (v_made_near : Nat → Int32) (v_now_near : Nat → Int32) (v_ways_layers : Nat → Int32) (v_ways_reached : Nat → Int32) (v_ways_steps : Nat → Int32) (H : Heap) (locs : List Loc) (ls : Array Slot), lv_has ls 4 [(0, .ref (g.2.1 0)), (1, .int x1), (2, .int x2)] → GW g s (mkS σ [(1539, v_likeness_ready), (769, v_made_size), (641, v_now_size), (2632, v_pairs_ready), (2372, v_search_reach), (1286, v_ways_far), (1283, v_ways_ready), (1285, v_ways_size), (1284, v_ways_whole)] [] [(13, v_made_near), (11, v_now_near), (22, v_ways_layers), (23, v_ways_reached), (21, v_ways_steps)] []) H locs → k27 x1 x2 v_likeness_ready v_made_size v_now_size v_pairs_ready v_search_reach v_ways_far v_ways_ready v_ways_size v_ways_whole v_made_near v_now_near v_ways_layers v_ways_reached v_ways_steps = some (r, w_likeness_ready, w_made_size, w_now_size, w_pairs_ready, w_search_reach, w_ways_far, w_ways_ready, w_ways_size, w_ways_whole, w_made_near, w_now_near, w_ways_layers, w_ways_reached, w_ways_steps) → Wg p l e 5 114 s m args below meth c g (some (.int r)) (mkS σ [(1539, w_likeness_ready), (769, w_made_size), (641, w_now_size), (2632, w_pairs_ready), (2372, w_search_reach), (1286, w_ways_far), (1283, w_ways_ready), (1285, w_ways_size), (1284, w_ways_whole)] [] [(13, w_made_near), (11, w_now_near), (22, w_ways_layers), (23, w_ways_reached), (21, w_ways_steps)] []) H locs (F0 m 27 ls [])) (x1 : Int32) (x2 : Int32) (v_likeness_ready : Int32) (v_made_size : Int32) (v_now_size : Int32) (v_pairs_ready : Int32) (v_search_reach : Int32) (v_ways_far : Int32) (v_ways_ready : Int32) (v_ways_size : Int32) (v_ways_whole : Int32) (v_made_near : Nat → Int32) (v_now_near : Nat → Int32) (v_ways_layers : Nat → Int32) (v_ways_reached : Nat → Int32) (v_ways_steps : Nat → Int32) (H : Heap) (locs : List Loc) (ls : Array Slot), lv_has ls 4 [(0, .ref (g.2.1 0)), (1, .int x1), (2, .int x2)] → GW g s (mkS σ [(1539, v_likeness_ready), (769, v_made_size), (641, v_now_size), (2632, v_pairs_ready), (2372, v_search_reach), (1286, v_ways_far), (1283, v_ways_ready), (1285, v_ways_size), (1284, v_ways_whole)] [] [(13, v_made_near), (11, v_now_near), (22, v_ways_layers), (23, v_ways_reached), (21, v_ways_steps)] []) H locs → LN_power_n27 k27 x1 x2 v_likeness_ready v_made_size v_now_size v_pairs_ready v_search_reach v_ways_far v_ways_ready v_ways_size v_ways_whole v_made_near v_now_near v_ways_layers v_ways_reached v_ways_steps = some (r, w_likeness_ready, w_made_size, w_now_size, w_pairs_ready, w_search_reach, w_ways_far, w_ways_ready, w_ways_size, w_ways_whole, w_made_near, w_now_near, w_ways_layers, w_ways_reached, w_ways_steps) → Wg p l e 5 114 s m args below meth c g (some (.int r)) (mkS σ [(1539, w_likeness_ready), (769, w_made_size), (641, w_now_size), (2632, w_pairs_ready), (2372, w_search_reach), (1286, w_ways_far), (1283, w_ways_ready), (1285, w_ways_size), (1284, w_ways_whole)] [] [(13, w_made_near), (11, w_now_near), (22, w_ways_layers), (23, w_ways_reached), (21, w_ways_steps)] []) H locs (F0 m 27 ls []) := by
    intro k27 hk27 x1 x2 v_likeness_ready v_made_size v_now_size v_pairs_ready v_search_reach v_ways_far v_ways_ready v_ways_size v_ways_whole v_made_near v_now_near v_ways_layers v_ways_reached v_ways_steps H locs ls hl hG h
    unfold LN_power_n27 at h
    refine lv_iload_n hx hb dX8_power_27 rfl (lv_at hl 2 rfl) ?_
    refine lv_aload_n hx hb dX8_power_28 rfl (lv_at hl 0 rfl) ?_
    refine gx_get (v := .ref (g.2.1 10)) (C := RX8) (T := TX8) (N := 13) hx hb hts mc_X8 hown hK hG (ga_0 g _) rfl 1 (by decide) hw0 rfl rfl dX8_power_29 ?_
    refine gx_get (v := .int v_now_size) (C := RX2) (T := TX2) (N := 2) hx hb hts mc_X2 hown hK hG (ga_10 g _) rfl 1 (by decide) hw1 rfl rfl dX8_power_32 ?_
    refine lv_icmp_ge (tgt := 87) hx hb dX8_power_35 (by decide) (fun c11 => ?_) (fun c11 => ?_)
    · have h := ite_t c11 h
      exact n87 v_likeness_ready v_made_size v_now_size v_pairs_ready v_search_reach v_ways_far v_ways_ready v_ways_size v_ways_whole v_made_near v_now_near v_ways_layers v_ways_reached v_ways_steps _ _ _ (lv_sub hl [0] rfl) hG h
    · have h := ite_f c11 h
      refine lv_iload_n hx hb dX8_power_38 rfl (lv_at hl 2 rfl) ?_
      refine lv_iconst (v := (1 : Int32)) hx hb dX8_power_39 (by decide) ?_
      refine lv_iadd hx hb dX8_power_40 ?_
      refine lv_istore_n (lv' := [(3, .int (x2 + (1 : Int32))), (0, .ref (g.2.1 0)), (1, .int x1), (2, .int x2)]) hx hb dX8_power_41 rfl hl (Nat.le_of_ble_eq_true rfl) rfl (fun ls hl => ?_)
      exact l42 k27 hk27 FUEL x1 x2 (x2 + (1 : Int32)) v_likeness_ready v_made_size v_now_size v_pairs_ready v_search_reach v_ways_far v_ways_ready v_ways_size v_ways_whole v_made_near v_now_near v_ways_layers v_ways_reached v_ways_steps _ _ _ (lv_sub hl [1, 2, 3, 0] rfl) hG h
  have l27 : ∀  (F : Nat) (x1 : Int32) (x2 : Int32) (v_likeness_ready : Int32) (v_made_size : Int32) (v_now_size : Int32) (v_pairs_ready : Int32) (v_search_reach : Int32) (v_ways_far : Int32) (v_ways_ready : Int32) (v_ways_size : Int32) (v_ways_whole : Int32) (v_made_near : Nat → Int32) (v_now_near : Nat → Int32) (v_ways_layers : Nat → Int32) (v_ways_reached : Nat → Int32) (v_ways_steps : Nat → Int32) (H : Heap) (locs : List Loc) (ls : Array Slot), lv_has ls 4 [(0, .ref (g.2.1 0)), (1, .int x1), (2, .int x2)] → GW g s (mkS σ [(1539, v_likeness_ready), (769, v_made_size), (641, v_now_size), (2632, v_pairs_ready), (2372, v_search_reach), (1286, v_ways_far), (1283, v_ways_ready), (1285, v_ways_size), (1284, v_ways_whole)] [] [(13, v_made_near), (11, v_now_near), (22, v_ways_layers), (23, v_ways_reached), (21, v_ways_steps)] []) H locs → LN_power_l27 F x1 x2 v_likeness_ready v_made_size v_now_size v_pairs_ready v_search_reach v_ways_far v_ways_ready v_ways_size v_ways_whole v_made_near v_now_near v_ways_layers v_ways_reached v_ways_steps = some (r, w_likeness_ready, w_made_size, w_now_size, w_pairs_ready, w_search_reach, w_ways_far, w_ways_ready, w_ways_size, w_ways_whole, w_made_near, w_now_near, w_ways_layers, w_ways_reached, w_ways_steps) → Wg p l e 5 114 s m args below meth c g (some (.int r)) (mkS σ [(1539, w_likeness_ready), (769, w_made_size), (641, w_now_size), (2632, w_pairs_ready), (2372, w_search_reach), (1286, w_ways_far), (1283, w_ways_ready), (1285, w_ways_size), (1284, w_ways_whole)] [] [(13, w_made_near), (11, w_now_near), (22, w_ways_layers), (23, w_ways_reached), (21, w_ways_steps)] []) H locs (F0 m 27 ls []) := by
    intro F
    induction F with
    | zero => intro x1 x2 v_likeness_ready v_made_size v_now_size v_pairs_ready v_search_reach v_ways_far v_ways_ready v_ways_size v_ways_whole v_made_near v_now_near v_ways_layers v_ways_reached v_ways_steps H locs ls hl hG h; exact no_some h
    | succ F ih => intro x1 x2 v_likeness_ready v_made_size v_now_size v_pairs_ready v_search_reach v_ways_far v_ways_ready v_ways_size v_ways_whole v_made_near v_now_near v_ways_layers v_ways_reached v_ways_steps H locs ls hl hG h; exact n27 (fun x1 x2 v_likeness_ready v_made_size v_now_size v_pairs_ready v_search_reach v_ways_far v_ways_ready v_ways_size v_ways_whole v_made_near v_now_near v_ways_layers v_ways_reached v_ways_steps => LN_power_l27 F x1 x2 v_likeness_ready v_made_size v_now_size v_pairs_ready v_search_reach v_ways_far v_ways_ready v_ways_size v_ways_whole v_made_near v_now_near v_ways_layers v_ways_reached v_ways_steps) ih x1 x2 v_likeness_ready v_made_size v_now_size v_pairs_ready v_search_reach v_ways_far v_ways_ready v_ways_size v_ways_whole v_made_near v_now_near v_ways_layers v_ways_reached v_ways_steps H locs ls hl hG h
  refine lv_iload_n hx hb dX8_power_0 rfl (lv_at hl 1 rfl) ?_
  refine lv_iconst (v := (1 : Int32)) hx hb dX8_power_1 (by decide) ?_
  refine lv_icmp_ge (tgt := 7) hx hb dX8_power_2 (by decide) (fun c12 => ?_) (fun c12 => ?_)
  · have h := ite_t c12 h
    refine lv_aload_n hx hb dX8_power_7 rfl (lv_at hl 0 rfl) ?_
    obtain ⟨z13, hc14, h⟩ := bnd_some h
    refine gx_cV (σ' := (mkS σ [(1539, (σ.1 1539)), (769, (σ.1 769)), (641, (σ.1 641)), (2632, (σ.1 2632)), (2372, (σ.1 2372)), (1286, z13.1), (1283, z13.2.1), (1285, z13.2.2.1), (1284, z13.2.2.2.1)] [] [(13, (σ.2.2.1 13)), (11, (σ.2.2.1 11)), (22, z13.2.2.2.2.1), (23, z13.2.2.2.2.2.1), (21, z13.2.2.2.2.2.2)] [])) (r := none) (rest := []) (As := []) hS9 (c_LN_measure l g (mkS σ [(1539, (σ.1 1539)), (769, (σ.1 769)), (641, (σ.1 641)), (2632, (σ.1 2632)), (2372, (σ.1 2372)), (1286, (σ.1 1286)), (1283, (σ.1 1283)), (1285, (σ.1 1285)), (1284, (σ.1 1284))] [] [(13, (σ.2.2.1 13)), (11, (σ.2.2.1 11)), (22, (σ.2.2.1 22)), (23, (σ.2.2.1 23)), (21, (σ.2.2.1 21))] []) z13.1 z13.2.1 z13.2.2.1 z13.2.2.2.1 z13.2.2.2.2.1 z13.2.2.2.2.2.1 z13.2.2.2.2.2.2 hc14) (mk_mk rfl rfl rfl rfl) (cwV 0 hts (gz_V mw_3_5 mw_3_7 ms_1_6 mw_1_1 mw_3_8) rfl rfl rfl hdV_X8_measure ⟨Nat.le_of_ble_eq_true rfl, Nat.le_of_ble_eq_true rfl⟩) hK hG (ga_0 g _) rfl rfl rfl hl.1 rfl (Nat.le_of_ble_eq_true rfl) dX8_power_8 (fun H locs hG => ?_)
    refine W.eq (g2 := F0 m 11 ls []) rfl ?_
    refine lv_aload_n hx hb dX8_power_11 rfl (lv_at hl 0 rfl) ?_
    refine gx_get (v := .ref (g.2.1 12)) (C := RX8) (T := TX8) (N := 13) hx hb hts mc_X8 hown hK hG (ga_0 g _) rfl 2 (by decide) hw3 rfl rfl dX8_power_12 ?_
    refine lv_aload_n hx hb dX8_power_15 rfl (lv_at hl 0 rfl) ?_
    refine gx_get (v := .ref (g.2.1 10)) (C := RX8) (T := TX8) (N := 13) hx hb hts mc_X8 hown hK hG (ga_0 g _) rfl 1 (by decide) hw0 rfl rfl dX8_power_16 ?_
    refine gx_get (v := .int (σ.1 641)) (C := RX2) (T := TX2) (N := 2) hx hb hts mc_X2 hown hK hG (ga_10 g _) rfl 1 (by decide) hw1 rfl rfl dX8_power_19 ?_
    obtain ⟨z15, hc16, h⟩ := bnd_some h
    refine gx_cV (σ' := (mkS σ [(1539, (σ.1 1539)), (769, z15.1), (641, (σ.1 641)), (2632, (σ.1 2632)), (2372, (σ.1 2372)), (1286, z13.1), (1283, z13.2.1), (1285, z13.2.2.1), (1284, z13.2.2.2.1)] [] [(13, z15.2), (11, (σ.2.2.1 11)), (22, z13.2.2.2.2.1), (23, z13.2.2.2.2.2.1), (21, z13.2.2.2.2.2.2)] [])) (r := none) (rest := []) (As := [.int (σ.1 641)]) hS9 (c_Net_empty_12 l g (mkS σ [(1539, (σ.1 1539)), (769, (σ.1 769)), (641, (σ.1 641)), (2632, (σ.1 2632)), (2372, (σ.1 2372)), (1286, z13.1), (1283, z13.2.1), (1285, z13.2.2.1), (1284, z13.2.2.2.1)] [] [(13, (σ.2.2.1 13)), (11, (σ.2.2.1 11)), (22, z13.2.2.2.2.1), (23, z13.2.2.2.2.2.1), (21, z13.2.2.2.2.2.2)] []) (σ.1 641) z15.1 z15.2 hc16) (mk_mk rfl rfl rfl rfl) (cwV 1 hts (gz_V mw_2_109 mw_2_110 mw_2_111 mw_1_3 mw_2_112) rfl rfl rfl hdV_X2_empty ⟨Nat.le_of_ble_eq_true rfl, Nat.le_of_ble_eq_true rfl⟩) hK hG (ga_12 g _) rfl rfl rfl hl.1 rfl (Nat.le_of_ble_eq_true rfl) dX8_power_22 (fun H locs hG => ?_)
    refine W.eq (g2 := F0 m 25 ls []) rfl ?_
    refine lv_iconst (v := (0 : Int32)) hx hb dX8_power_25 (by decide) ?_
    refine lv_istore_n (lv' := [(2, .int (0 : Int32)), (0, .ref (g.2.1 0)), (1, .int x1)]) hx hb dX8_power_26 rfl hl (Nat.le_of_ble_eq_true rfl) rfl (fun ls hl => ?_)
    exact l27 FUEL x1 (0 : Int32) (σ.1 1539) z15.1 (σ.1 641) (σ.1 2632) (σ.1 2372) z13.1 z13.2.1 z13.2.2.1 z13.2.2.2.1 z15.2 (σ.2.2.1 11) z13.2.2.2.2.1 z13.2.2.2.2.2.1 z13.2.2.2.2.2.2 _ _ _ (lv_sub hl [1, 2, 0] rfl) hG h
  · have h := ite_f c12 h
    refine lv_iconst (v := (-1 : Int32)) hx hb dX8_power_5 (by decide) ?_
    cases h
    exact gx_iret hx hb hr hlocks hG dX8_power_6

set_option maxHeartbeats 4000000 in
set_option maxRecDepth 100000 in
theorem c_Td_putOnward (l : Launch) (g : GC) (σ : St) (x1 : Int32) (x2 : Int32) (r : Int32) (w_judged : Int32) (w_b : Nat → Int32) (h : Td_putOnward x1 x2 (σ.1 1804) (σ.2.2.1 29) = some (r, w_judged, w_b)) : Cn l g yX6_putOnward (Cond.code yX6_putOnward cX6_putOnward 3 (some .int) :: wG) 0 0 [.ref (g.2.1 28), .int x1, .int x2] σ (some (.int r)) (mkS σ [(1804, w_judged)] [] [(29, w_b)] []) := by
  unfold Cn
  refine Met.ofW (cc := cX6_putOnward) (maxL := 3) (ret := (some .int)) (by decide) rfl ?_
  intro p e s m args below meth c s₁ B hml hv
  obtain ⟨hargs, hP0, hK⟩ := hv
  have hx := B.exec
  have hb := B.bytes
  have hr := B.returns
  have hts : ∀ w ∈ wG, w.before args s = true := fun w h => atoms_spec (ws := (Cond.code yX6_putOnward cX6_putOnward 3 (some .int) :: wG)) B.pre w (List.mem_cons_of_mem _ h)
  have hown : s.vm.findClass RX6 = some m.cls := findClass_of_methodNamed B.named
  have hlocks := B.notSynchronized
  have hw0 := hts _ mw_1_157
  have hw1 := hts _ mw_1_178
  have hf9 : entryFrame m args 3 = _ := (congrArg (fun a => entryFrame m a 3) hargs).trans (lg_entry_eq m [.ref (g.2.1 28), .int x1, .int x2] 3)
  show Wg p l e 0 0 s m args below meth c g (some (.int r)) (mkS σ [(1804, w_judged)] [] [(29, w_b)] []) s.heap [] (entryFrame m args 3)
  rw [hf9]
  have hl := lv_entry ([.ref (g.2.1 28), .int x1, .int x2]) (n := 3) (Nat.le_of_ble_eq_true rfl)
  generalize (lg_sl ([.ref (g.2.1 28), .int x1, .int x2]) ++ List.replicate (3 - (lg_sl ([.ref (g.2.1 28), .int x1, .int x2])).length) Slot.unset).toArray = ls at hl ⊢
  have hl : lv_has ls 3 [(0, .ref (g.2.1 28)), (1, .int x1), (2, .int x2)] := hl
  have hG : GW g s σ s.heap [] := ⟨hP0, va_S.rf⟩
  have hG : GW g s (mkS σ [(1804, (σ.1 1804))] [] [(29, (σ.2.2.1 29))] []) s.heap [] := GW_self [1804] [] [29] [] hG
  unfold Td_putOnward at h
  refine lv_aload_n hx hb dX6_putOnward_0 rfl (lv_at hl 0 rfl) ?_
  refine gx_get (v := .ref (g.2.1 29)) (C := RX6) (T := TX6) (N := 13) hx hb hts mc_X6 hown hK hG (ga_28 g _) rfl 0 (by decide) hw0 rfl rfl dX6_putOnward_1 ?_
  refine lv_iload_n hx hb dX6_putOnward_4 rfl (lv_at hl 1 rfl) ?_
  refine lv_iload_n hx hb dX6_putOnward_5 rfl (lv_at hl 2 rfl) ?_
  obtain ⟨hg1, h⟩ := gd_some h
  refine gx_iast (σ' := (mkS σ [(1804, (σ.1 1804))] [] [(29, (upd (σ.2.2.1 29) (x1.toNatClampNeg) x2))] [])) (f := (σ.2.2.1 29)) hx hb hK hG (ga_29 g _) hg1 ((gs_29 g _ _).trans (congrArg (g_cells g) (mk_c 0 rfl rfl))) dX6_putOnward_6 (fun H locs hG => ?_)
  refine lv_aload_n hx hb dX6_putOnward_7 rfl (lv_at hl 0 rfl) ?_
  refine lv_iconst (v := (0 : Int32)) hx hb dX6_putOnward_8 (by decide) ?_
  refine gx_put (σ' := (mkS σ [(1804, (0 : Int32))] [] [(29, (upd (σ.2.2.1 29) (x1.toNatClampNeg) x2))] [])) (C := RX6) (T := TX6) (N := 13) hx hb hts mc_X6 tyX6 tyX6_ok nmX6 hown hK hG (ga_28 g _) rfl 12 (by decide) hw1 rfl rfl (isb_n (by decide)) (isb_f (by decide)) (Nat.le_of_ble_eq_true rfl) ((gf_1804 g _ _).trans (congrArg (g_cells g) (mk_a 0 rfl rfl))) dX6_putOnward_9 (fun H locs hG => ?_)
  refine lv_iconst (v := (1 : Int32)) hx hb dX6_putOnward_12 (by decide) ?_
  cases h
  exact gx_iret hx hb hr hlocks hG dX6_putOnward_13

set_option maxHeartbeats 4000000 in
set_option maxRecDepth 100000 in
theorem c_Td_putBackward (l : Launch) (g : GC) (σ : St) (x1 : Int32) (x2 : Int32) (r : Int32) (w_judged : Int32) (w_c : Nat → Int32) (h : Td_putBackward x1 x2 (σ.1 1804) (σ.2.2.1 30) = some (r, w_judged, w_c)) : Cn l g yX6_putBackward (Cond.code yX6_putBackward cX6_putBackward 3 (some .int) :: wG) 0 0 [.ref (g.2.1 28), .int x1, .int x2] σ (some (.int r)) (mkS σ [(1804, w_judged)] [] [(30, w_c)] []) := by
  unfold Cn
  refine Met.ofW (cc := cX6_putBackward) (maxL := 3) (ret := (some .int)) (by decide) rfl ?_
  intro p e s m args below meth c s₁ B hml hv
  obtain ⟨hargs, hP0, hK⟩ := hv
  have hx := B.exec
  have hb := B.bytes
  have hr := B.returns
  have hts : ∀ w ∈ wG, w.before args s = true := fun w h => atoms_spec (ws := (Cond.code yX6_putBackward cX6_putBackward 3 (some .int) :: wG)) B.pre w (List.mem_cons_of_mem _ h)
  have hown : s.vm.findClass RX6 = some m.cls := findClass_of_methodNamed B.named
  have hlocks := B.notSynchronized
  have hw0 := hts _ mw_1_159
  have hw1 := hts _ mw_1_178
  have hf9 : entryFrame m args 3 = _ := (congrArg (fun a => entryFrame m a 3) hargs).trans (lg_entry_eq m [.ref (g.2.1 28), .int x1, .int x2] 3)
  show Wg p l e 0 0 s m args below meth c g (some (.int r)) (mkS σ [(1804, w_judged)] [] [(30, w_c)] []) s.heap [] (entryFrame m args 3)
  rw [hf9]
  have hl := lv_entry ([.ref (g.2.1 28), .int x1, .int x2]) (n := 3) (Nat.le_of_ble_eq_true rfl)
  generalize (lg_sl ([.ref (g.2.1 28), .int x1, .int x2]) ++ List.replicate (3 - (lg_sl ([.ref (g.2.1 28), .int x1, .int x2])).length) Slot.unset).toArray = ls at hl ⊢
  have hl : lv_has ls 3 [(0, .ref (g.2.1 28)), (1, .int x1), (2, .int x2)] := hl
  have hG : GW g s σ s.heap [] := ⟨hP0, va_S.rf⟩
  have hG : GW g s (mkS σ [(1804, (σ.1 1804))] [] [(30, (σ.2.2.1 30))] []) s.heap [] := GW_self [1804] [] [30] [] hG
  unfold Td_putBackward at h
  refine lv_aload_n hx hb dX6_putBackward_0 rfl (lv_at hl 0 rfl) ?_
  refine gx_get (v := .ref (g.2.1 30)) (C := RX6) (T := TX6) (N := 13) hx hb hts mc_X6 hown hK hG (ga_28 g _) rfl 1 (by decide) hw0 rfl rfl dX6_putBackward_1 ?_
  refine lv_iload_n hx hb dX6_putBackward_4 rfl (lv_at hl 1 rfl) ?_
  refine lv_iload_n hx hb dX6_putBackward_5 rfl (lv_at hl 2 rfl) ?_
  obtain ⟨hg1, h⟩ := gd_some h
  refine gx_iast (σ' := (mkS σ [(1804, (σ.1 1804))] [] [(30, (upd (σ.2.2.1 30) (x1.toNatClampNeg) x2))] [])) (f := (σ.2.2.1 30)) hx hb hK hG (ga_30 g _) hg1 ((gs_30 g _ _).trans (congrArg (g_cells g) (mk_c 0 rfl rfl))) dX6_putBackward_6 (fun H locs hG => ?_)
  refine lv_aload_n hx hb dX6_putBackward_7 rfl (lv_at hl 0 rfl) ?_
  refine lv_iconst (v := (0 : Int32)) hx hb dX6_putBackward_8 (by decide) ?_
  refine gx_put (σ' := (mkS σ [(1804, (0 : Int32))] [] [(30, (upd (σ.2.2.1 30) (x1.toNatClampNeg) x2))] [])) (C := RX6) (T := TX6) (N := 13) hx hb hts mc_X6 tyX6 tyX6_ok nmX6 hown hK hG (ga_28 g _) rfl 12 (by decide) hw1 rfl rfl (isb_n (by decide)) (isb_f (by decide)) (Nat.le_of_ble_eq_true rfl) ((gf_1804 g _ _).trans (congrArg (g_cells g) (mk_a 0 rfl rfl))) dX6_putBackward_9 (fun H locs hG => ?_)
  refine lv_iconst (v := (1 : Int32)) hx hb dX6_putBackward_12 (by decide) ?_
  cases h
  exact gx_iret hx hb hr hlocks hG dX6_putBackward_13

set_option maxHeartbeats 4000000 in
set_option maxRecDepth 100000 in
theorem c_LN_put (l : Launch) (g : GC) (σ : St) (x1 : Int32) (x2 : Int32) (x3 : Int32) (r : Int32) (w_told_judged : Int32) (w_told_b : Nat → Int32) (w_told_c : Nat → Int32) (h : LN_put x1 x2 x3 (σ.1 1804) (σ.1 1800) (σ.2.2.1 29) (σ.2.2.1 30) = some (r, w_told_judged, w_told_b, w_told_c)) : Cn l g yX8_put (Cond.code yX8_put cX8_put 4 (some .int) :: wG) 1 22 [.ref (g.2.1 0), .int x1, .int x2, .int x3] σ (some (.int r)) (mkS σ [(1804, w_told_judged)] [] [(29, w_told_b), (30, w_told_c)] []) := by
  unfold Cn
  refine Met.ofW (cc := cX8_put) (maxL := 4) (ret := (some .int)) (by decide) rfl ?_
  intro p e s m args below meth c s₁ B hml hv
  obtain ⟨hargs, hP0, hK⟩ := hv
  have hx := B.exec
  have hb := B.bytes
  have hr := B.returns
  have hts : ∀ w ∈ wG, w.before args s = true := fun w h => atoms_spec (ws := (Cond.code yX8_put cX8_put 4 (some .int) :: wG)) B.pre w (List.mem_cons_of_mem _ h)
  have hown : s.vm.findClass RX8 = some m.cls := findClass_of_methodNamed B.named
  have hlocks := B.notSynchronized
  have hS9 : CallFix p m c cX8_put 4 s args wG RX8 := ⟨hx, hb, hml, hown, hts⟩
  have hw0 := hts _ mw_2_46
  have hw1 := hts _ mw_1_172
  have hf9 : entryFrame m args 4 = _ := (congrArg (fun a => entryFrame m a 4) hargs).trans (lg_entry_eq m [.ref (g.2.1 0), .int x1, .int x2, .int x3] 4)
  show Wg p l e 1 22 s m args below meth c g (some (.int r)) (mkS σ [(1804, w_told_judged)] [] [(29, w_told_b), (30, w_told_c)] []) s.heap [] (entryFrame m args 4)
  rw [hf9]
  have hl := lv_entry ([.ref (g.2.1 0), .int x1, .int x2, .int x3]) (n := 4) (Nat.le_of_ble_eq_true rfl)
  generalize (lg_sl ([.ref (g.2.1 0), .int x1, .int x2, .int x3]) ++ List.replicate (4 - (lg_sl ([.ref (g.2.1 0), .int x1, .int x2, .int x3])).length) Slot.unset).toArray = ls at hl ⊢
  have hl : lv_has ls 4 [(0, .ref (g.2.1 0)), (1, .int x1), (2, .int x2), (3, .int x3)] := hl
  have hG : GW g s σ s.heap [] := ⟨hP0, va_S.rf⟩
  have hG : GW g s (mkS σ [(1804, (σ.1 1804))] [] [(29, (σ.2.2.1 29)), (30, (σ.2.2.1 30))] []) s.heap [] := GW_self [1804] [] [29, 30] [] hG
  unfold LN_put at h
  have n19 : ∀ (v_told_judged : Int32) (v_told_b : Nat → Int32) (v_told_c : Nat → Int32) (H : Heap) (locs : List Loc) (ls : Array Slot), lv_has ls 4 [] → GW g s (mkS σ [(1804, v_told_judged)] [] [(29, v_told_b), (30, v_told_c)] []) H locs → LN_put_n19 v_told_judged v_told_b v_told_c = some (r, w_told_judged, w_told_b, w_told_c) → Wg p l e 1 22 s m args below meth c g (some (.int r)) (mkS σ [(1804, w_told_judged)] [] [(29, w_told_b), (30, w_told_c)] []) H locs (F0 m 19 ls []) := by
    intro v_told_judged v_told_b v_told_c H locs ls hl hG h
    unfold LN_put_n19 at h
    refine lv_iconst (v := (-1 : Int32)) hx hb dX8_put_19 (by decide) ?_
    cases h
    exact gx_iret hx hb hr hlocks hG dX8_put_20
  have n53 : ∀ (t0 : Int32) (v_told_judged : Int32) (v_told_b : Nat → Int32) (v_told_c : Nat → Int32) (H : Heap) (locs : List Loc) (ls : Array Slot), lv_has ls 4 [] → GW g s (mkS σ [(1804, v_told_judged)] [] [(29, v_told_b), (30, v_told_c)] []) H locs → LN_put_n53 t0 v_told_judged v_told_b v_told_c = some (r, w_told_judged, w_told_b, w_told_c) → Wg p l e 1 22 s m args below meth c g (some (.int r)) (mkS σ [(1804, w_told_judged)] [] [(29, w_told_b), (30, w_told_c)] []) H locs (F0 m 53 ls [.int t0]) := by
    intro t0 v_told_judged v_told_b v_told_c H locs ls hl hG h
    unfold LN_put_n53 at h
    cases h
    exact gx_iret hx hb hr hlocks hG dX8_put_53
  have n40 : ∀ (v_told_judged : Int32) (v_told_b : Nat → Int32) (v_told_c : Nat → Int32) (H : Heap) (locs : List Loc) (ls : Array Slot), lv_has ls 4 [] → GW g s (mkS σ [(1804, v_told_judged)] [] [(29, v_told_b), (30, v_told_c)] []) H locs → LN_put_n40 v_told_judged v_told_b v_told_c = some (r, w_told_judged, w_told_b, w_told_c) → Wg p l e 1 22 s m args below meth c g (some (.int r)) (mkS σ [(1804, w_told_judged)] [] [(29, w_told_b), (30, w_told_c)] []) H locs (F0 m 40 ls []) := by
    intro v_told_judged v_told_b v_told_c H locs ls hl hG h
    unfold LN_put_n40 at h
    refine lv_iconst (v := (-1 : Int32)) hx hb dX8_put_40 (by decide) ?_
    refine lv_goto (tgt := 53) hx hb dX8_put_41 (by decide) ?_
    exact n53 (-1 : Int32) v_told_judged v_told_b v_told_c _ _ _ (lv_sub hl [] rfl) hG h
  have n83 : ∀ (t0 : Int32) (v_told_judged : Int32) (v_told_b : Nat → Int32) (v_told_c : Nat → Int32) (H : Heap) (locs : List Loc) (ls : Array Slot), lv_has ls 4 [] → GW g s (mkS σ [(1804, v_told_judged)] [] [(29, v_told_b), (30, v_told_c)] []) H locs → LN_put_n83 t0 v_told_judged v_told_b v_told_c = some (r, w_told_judged, w_told_b, w_told_c) → Wg p l e 1 22 s m args below meth c g (some (.int r)) (mkS σ [(1804, w_told_judged)] [] [(29, w_told_b), (30, w_told_c)] []) H locs (F0 m 83 ls [.int t0]) := by
    intro t0 v_told_judged v_told_b v_told_c H locs ls hl hG h
    unfold LN_put_n83 at h
    cases h
    exact gx_iret hx hb hr hlocks hG dX8_put_83
  have n70 : ∀ (v_told_judged : Int32) (v_told_b : Nat → Int32) (v_told_c : Nat → Int32) (H : Heap) (locs : List Loc) (ls : Array Slot), lv_has ls 4 [] → GW g s (mkS σ [(1804, v_told_judged)] [] [(29, v_told_b), (30, v_told_c)] []) H locs → LN_put_n70 v_told_judged v_told_b v_told_c = some (r, w_told_judged, w_told_b, w_told_c) → Wg p l e 1 22 s m args below meth c g (some (.int r)) (mkS σ [(1804, w_told_judged)] [] [(29, w_told_b), (30, w_told_c)] []) H locs (F0 m 70 ls []) := by
    intro v_told_judged v_told_b v_told_c H locs ls hl hG h
    unfold LN_put_n70 at h
    refine lv_iconst (v := (-1 : Int32)) hx hb dX8_put_70 (by decide) ?_
    refine lv_goto (tgt := 83) hx hb dX8_put_71 (by decide) ?_
    exact n83 (-1 : Int32) v_told_judged v_told_b v_told_c _ _ _ (lv_sub hl [] rfl) hG h
  refine lv_iload_n hx hb dX8_put_0 rfl (lv_at hl 1 rfl) ?_
  refine lv_if_lt (tgt := 19) hx hb dX8_put_1 (by decide) (fun c1 => ?_) (fun c1 => ?_)
  · have h := ite_t c1 h
    exact n19 (σ.1 1804) (σ.2.2.1 29) (σ.2.2.1 30) _ _ _ (lv_sub hl [] rfl) hG h
  · have h := ite_f c1 h
    refine lv_iload_n hx hb dX8_put_4 rfl (lv_at hl 1 rfl) ?_
    refine lv_iconst (v := (1 : Int32)) hx hb dX8_put_5 (by decide) ?_
    refine lv_icmp_gt (tgt := 19) hx hb dX8_put_6 (by decide) (fun c2 => ?_) (fun c2 => ?_)
    · have h := ite_t c2 h
      exact n19 (σ.1 1804) (σ.2.2.1 29) (σ.2.2.1 30) _ _ _ (lv_sub hl [] rfl) hG h
    · have h := ite_f c2 h
      refine lv_iload_n hx hb dX8_put_9 rfl (lv_at hl 3 rfl) ?_
      refine lv_if_lt (tgt := 19) hx hb dX8_put_10 (by decide) (fun c3 => ?_) (fun c3 => ?_)
      · have h := ite_t c3 h
        exact n19 (σ.1 1804) (σ.2.2.1 29) (σ.2.2.1 30) _ _ _ (lv_sub hl [] rfl) hG h
      · have h := ite_f c3 h
        refine lv_iload_n hx hb dX8_put_13 rfl (lv_at hl 3 rfl) ?_
        refine lv_bipush (v := (20 : Int32)) hx hb dX8_put_14 (by decide) ?_
        refine lv_icmp_le (tgt := 21) hx hb dX8_put_16 (by decide) (fun c4 => ?_) (fun c4 => ?_)
        · have h := ite_t c4 h
          refine lv_iload_n hx hb dX8_put_21 rfl (lv_at hl 1 rfl) ?_
          refine lv_if_ne (tgt := 54) hx hb dX8_put_22 (by decide) (fun c5 => ?_) (fun c5 => ?_)
          · have h := ite_f c5 h
            refine lv_iload_n hx hb dX8_put_54 rfl (lv_at hl 2 rfl) ?_
            refine lv_iconst (v := (1 : Int32)) hx hb dX8_put_55 (by decide) ?_
            refine lv_icmp_lt (tgt := 70) hx hb dX8_put_56 (by decide) (fun c6 => ?_) (fun c6 => ?_)
            · have h := ite_t c6 h
              exact n70 (σ.1 1804) (σ.2.2.1 29) (σ.2.2.1 30) _ _ _ (lv_sub hl [] rfl) hG h
            · have h := ite_f c6 h
              refine lv_iload_n hx hb dX8_put_59 rfl (lv_at hl 2 rfl) ?_
              refine lv_aload_n hx hb dX8_put_60 rfl (lv_at hl 0 rfl) ?_
              refine gx_get (v := .ref (g.2.1 28)) (C := RX8) (T := TX8) (N := 13) hx hb hts mc_X8 hown hK hG (ga_0 g _) rfl 9 (by decide) hw0 rfl rfl dX8_put_61 ?_
              refine gx_get (v := .int (σ.1 1800)) (C := RX6) (T := TX6) (N := 13) hx hb hts mc_X6 hown hK hG (ga_28 g _) rfl 8 (by decide) hw1 rfl rfl dX8_put_64 ?_
              refine lv_icmp_le (tgt := 74) hx hb dX8_put_67 (by decide) (fun c7 => ?_) (fun c7 => ?_)
              · have h := ite_t c7 h
                refine lv_aload_n hx hb dX8_put_74 rfl (lv_at hl 0 rfl) ?_
                refine gx_get (v := .ref (g.2.1 28)) (C := RX8) (T := TX8) (N := 13) hx hb hts mc_X8 hown hK hG (ga_0 g _) rfl 9 (by decide) hw0 rfl rfl dX8_put_75 ?_
                refine lv_iload_n hx hb dX8_put_78 rfl (lv_at hl 2 rfl) ?_
                refine lv_iload_n hx hb dX8_put_79 rfl (lv_at hl 3 rfl) ?_
                obtain ⟨z8, hc9, h⟩ := bnd_some h
                refine gx_cV (σ' := (mkS σ [(1804, z8.2.1)] [] [(29, (σ.2.2.1 29)), (30, z8.2.2)] [])) (r := (some (.int z8.1))) (rest := []) (As := [.int x2, .int x3]) hS9 (c_Td_putBackward l g (mkS σ [(1804, (σ.1 1804))] [] [(29, (σ.2.2.1 29)), (30, (σ.2.2.1 30))] []) x2 x3 z8.1 z8.2.1 z8.2.2 hc9) (mk_mk rfl rfl rfl rfl) (cwV 2 hts (gz_V mw_3_124 mw_3_125 mw_3_126 mw_1_7 mw_3_127) rfl rfl rfl hdV_X6_putBackward ⟨Nat.le_of_ble_eq_true rfl, Nat.le_of_ble_eq_true rfl⟩) hK hG (ga_28 g _) rfl rfl rfl hl.1 rfl (Nat.le_of_ble_eq_true rfl) dX8_put_80 (fun H locs hG => ?_)
                refine W.eq (g2 := F0 m 83 ls [.int z8.1]) rfl ?_
                exact n83 z8.1 z8.2.1 (σ.2.2.1 29) z8.2.2 _ _ _ (lv_sub hl [] rfl) hG h
              · have h := ite_f c7 h
                exact n70 (σ.1 1804) (σ.2.2.1 29) (σ.2.2.1 30) _ _ _ (lv_sub hl [] rfl) hG h
          · have h := ite_t c5 h
            refine lv_iload_n hx hb dX8_put_25 rfl (lv_at hl 2 rfl) ?_
            refine lv_if_lt (tgt := 40) hx hb dX8_put_26 (by decide) (fun c10 => ?_) (fun c10 => ?_)
            · have h := ite_t c10 h
              exact n40 (σ.1 1804) (σ.2.2.1 29) (σ.2.2.1 30) _ _ _ (lv_sub hl [] rfl) hG h
            · have h := ite_f c10 h
              refine lv_iload_n hx hb dX8_put_29 rfl (lv_at hl 2 rfl) ?_
              refine lv_aload_n hx hb dX8_put_30 rfl (lv_at hl 0 rfl) ?_
              refine gx_get (v := .ref (g.2.1 28)) (C := RX8) (T := TX8) (N := 13) hx hb hts mc_X8 hown hK hG (ga_0 g _) rfl 9 (by decide) hw0 rfl rfl dX8_put_31 ?_
              refine gx_get (v := .int (σ.1 1800)) (C := RX6) (T := TX6) (N := 13) hx hb hts mc_X6 hown hK hG (ga_28 g _) rfl 8 (by decide) hw1 rfl rfl dX8_put_34 ?_
              refine lv_icmp_lt (tgt := 44) hx hb dX8_put_37 (by decide) (fun c11 => ?_) (fun c11 => ?_)
              · have h := ite_t c11 h
                refine lv_aload_n hx hb dX8_put_44 rfl (lv_at hl 0 rfl) ?_
                refine gx_get (v := .ref (g.2.1 28)) (C := RX8) (T := TX8) (N := 13) hx hb hts mc_X8 hown hK hG (ga_0 g _) rfl 9 (by decide) hw0 rfl rfl dX8_put_45 ?_
                refine lv_iload_n hx hb dX8_put_48 rfl (lv_at hl 2 rfl) ?_
                refine lv_iload_n hx hb dX8_put_49 rfl (lv_at hl 3 rfl) ?_
                obtain ⟨z12, hc13, h⟩ := bnd_some h
                refine gx_cV (σ' := (mkS σ [(1804, z12.2.1)] [] [(29, z12.2.2), (30, (σ.2.2.1 30))] [])) (r := (some (.int z12.1))) (rest := []) (As := [.int x2, .int x3]) hS9 (c_Td_putOnward l g (mkS σ [(1804, (σ.1 1804))] [] [(29, (σ.2.2.1 29)), (30, (σ.2.2.1 30))] []) x2 x3 z12.1 z12.2.1 z12.2.2 hc13) (mk_mk rfl rfl rfl rfl) (cwV 2 hts (gz_V mw_3_120 mw_3_121 mw_3_122 mw_1_7 mw_3_123) rfl rfl rfl hdV_X6_putOnward ⟨Nat.le_of_ble_eq_true rfl, Nat.le_of_ble_eq_true rfl⟩) hK hG (ga_28 g _) rfl rfl rfl hl.1 rfl (Nat.le_of_ble_eq_true rfl) dX8_put_50 (fun H locs hG => ?_)
                refine W.eq (g2 := F0 m 53 ls [.int z12.1]) rfl ?_
                exact n53 z12.1 z12.2.1 z12.2.2 (σ.2.2.1 30) _ _ _ (lv_sub hl [] rfl) hG h
              · have h := ite_f c11 h
                exact n40 (σ.1 1804) (σ.2.2.1 29) (σ.2.2.1 30) _ _ _ (lv_sub hl [] rfl) hG h
        · have h := ite_f c4 h
          exact n19 (σ.1 1804) (σ.2.2.1 29) (σ.2.2.1 30) _ _ _ (lv_sub hl [] rfl) hG h

set_option maxHeartbeats 4000000 in
set_option maxRecDepth 100000 in
theorem c_Net_part_10 (l : Launch) (g : GC) (σ : St) (x1 : Int32) (x2 : Int32) (w_near : Nat → Int32) (h : Net_part x1 x2 (σ.1 641) (σ.2.2.1 11) = some w_near) : Cn l g yX2_part (Cond.code yX2_part cX2_part 3 none :: wG) 2 43 [.ref (g.2.1 10), .int x1, .int x2] σ none (mkS σ [] [] [(11, w_near)] []) := by
  unfold Cn
  refine Met.ofW (cc := cX2_part) (maxL := 3) (ret := none) (by decide) rfl ?_
  intro p e s m args below meth c s₁ B hml hv
  obtain ⟨hargs, hP0, hK⟩ := hv
  have hx := B.exec
  have hb := B.bytes
  have hr := B.returns
  have hts : ∀ w ∈ wG, w.before args s = true := fun w h => atoms_spec (ws := (Cond.code yX2_part cX2_part 3 none :: wG)) B.pre w (List.mem_cons_of_mem _ h)
  have hown : s.vm.findClass RX2 = some m.cls := findClass_of_methodNamed B.named
  have hlocks := B.notSynchronized
  have hS9 : CallFix p m c cX2_part 3 s args wG RX2 := ⟨hx, hb, hml, hown, hts⟩
  have hw0 := hts _ mw_1_53
  have hf9 : entryFrame m args 3 = _ := (congrArg (fun a => entryFrame m a 3) hargs).trans (lg_entry_eq m [.ref (g.2.1 10), .int x1, .int x2] 3)
  show Wg p l e 2 43 s m args below meth c g none (mkS σ [] [] [(11, w_near)] []) s.heap [] (entryFrame m args 3)
  rw [hf9]
  have hl := lv_entry ([.ref (g.2.1 10), .int x1, .int x2]) (n := 3) (Nat.le_of_ble_eq_true rfl)
  generalize (lg_sl ([.ref (g.2.1 10), .int x1, .int x2]) ++ List.replicate (3 - (lg_sl ([.ref (g.2.1 10), .int x1, .int x2])).length) Slot.unset).toArray = ls at hl ⊢
  have hl : lv_has ls 3 [(0, .ref (g.2.1 10)), (1, .int x1), (2, .int x2)] := hl
  have hG : GW g s σ s.heap [] := ⟨hP0, va_S.rf⟩
  have hG : GW g s (mkS σ [] [] [(11, (σ.2.2.1 11))] []) s.heap [] := GW_self [] [] [11] [] hG
  unfold Net_part at h
  have n37 : ∀ (v_near : Nat → Int32) (H : Heap) (locs : List Loc) (ls : Array Slot), lv_has ls 3 [] → GW g s (mkS σ [] [] [(11, v_near)] []) H locs → Net_part_n37 v_near = some w_near → Wg p l e 2 43 s m args below meth c g none (mkS σ [] [] [(11, w_near)] []) H locs (F0 m 37 ls []) := by
    intro v_near H locs ls hl hG h
    unfold Net_part_n37 at h
    cases h
    exact gx_vret hx hb hr hlocks hG dX2_part_37
  refine lv_aload_n hx hb dX2_part_0 rfl (lv_at hl 0 rfl) ?_
  refine lv_iload_n hx hb dX2_part_1 rfl (lv_at hl 1 rfl) ?_
  refine lv_iload_n hx hb dX2_part_2 rfl (lv_at hl 2 rfl) ?_
  obtain ⟨z1, hc2, h⟩ := bnd_some h
  refine gx_cV (σ' := (mkS σ [] [] [(11, (σ.2.2.1 11))] [])) (r := (some (.int z1))) (rest := []) (As := [.int x1, .int x2]) hS9 (c_Net_mayJoin_10 l g (mkS σ [] [] [(11, (σ.2.2.1 11))] []) x1 x2 z1 hc2) rfl (cwV 2 hts (gz_V mw_2_141 mw_2_123 mw_2_124 mw_1_3 mw_2_125) rfl rfl rfl hdV_X2_mayJoin ⟨Nat.le_of_ble_eq_true rfl, Nat.le_of_ble_eq_true rfl⟩) hK hG (ga_10 g _) rfl rfl rfl hl.1 rfl (Nat.le_of_ble_eq_true rfl) dX2_part_3 (fun H locs hG => ?_)
  refine W.eq (g2 := F0 m 6 ls [.int z1]) rfl ?_
  refine lv_if_eq (tgt := 37) hx hb dX2_part_6 (by decide) (fun c3 => ?_) (fun c3 => ?_)
  · have h := ite_t c3 h
    exact n37 (σ.2.2.1 11) _ _ _ (lv_sub hl [] rfl) hG h
  · have h := ite_f c3 h
    refine lv_aload_n hx hb dX2_part_9 rfl (lv_at hl 0 rfl) ?_
    refine gx_get (v := .ref (g.2.1 11)) (C := RX2) (T := TX2) (N := 2) hx hb hts mc_X2 hown hK hG (ga_10 g _) rfl 0 (by decide) hw0 rfl rfl dX2_part_10 ?_
    refine lv_iload_n hx hb dX2_part_13 rfl (lv_at hl 1 rfl) ?_
    refine lv_dup2_11 hx hb dX2_part_14 rfl rfl ?_
    obtain ⟨hg4, h⟩ := gd_some h
    refine gx_iald (f := (σ.2.2.1 11)) hx hb hK hG (ga_11 g _) hg4 dX2_part_15 ?_
    refine lv_iconst (v := (1 : Int32)) hx hb dX2_part_16 (by decide) ?_
    refine lv_iload_n hx hb dX2_part_17 rfl (lv_at hl 2 rfl) ?_
    refine lv_ishl hx hb dX2_part_18 ?_
    refine lv_iconst (v := (-1 : Int32)) hx hb dX2_part_19 (by decide) ?_
    refine lv_ixor hx hb dX2_part_20 ?_
    refine lv_iand hx hb dX2_part_21 ?_
    refine lv_topi (fun y5 ey5 => ?_)
    have h := lt_at h ey5
    refine gx_iast (σ' := (mkS σ [] [] [(11, (upd (σ.2.2.1 11) (x1.toNatClampNeg) y5))] [])) (f := (σ.2.2.1 11)) hx hb hK hG (ga_11 g _) hg4 ((gs_11 g _ _).trans (congrArg (g_cells g) (mk_c 0 rfl rfl))) dX2_part_22 (fun H locs hG => ?_)
    refine lv_aload_n hx hb dX2_part_23 rfl (lv_at hl 0 rfl) ?_
    refine gx_get (v := .ref (g.2.1 11)) (C := RX2) (T := TX2) (N := 2) hx hb hts mc_X2 hown hK hG (ga_10 g _) rfl 0 (by decide) hw0 rfl rfl dX2_part_24 ?_
    refine lv_iload_n hx hb dX2_part_27 rfl (lv_at hl 2 rfl) ?_
    refine lv_dup2_11 hx hb dX2_part_28 rfl rfl ?_
    obtain ⟨hg6, h⟩ := gd_some h
    refine gx_iald (f := (upd (σ.2.2.1 11) (x1.toNatClampNeg) y5)) hx hb hK hG (ga_11 g _) hg6 dX2_part_29 ?_
    refine lv_iconst (v := (1 : Int32)) hx hb dX2_part_30 (by decide) ?_
    refine lv_iload_n hx hb dX2_part_31 rfl (lv_at hl 1 rfl) ?_
    refine lv_ishl hx hb dX2_part_32 ?_
    refine lv_iconst (v := (-1 : Int32)) hx hb dX2_part_33 (by decide) ?_
    refine lv_ixor hx hb dX2_part_34 ?_
    refine lv_iand hx hb dX2_part_35 ?_
    refine lv_topi (fun y7 ey7 => ?_)
    have h := lt_at h ey7
    refine gx_iast (σ' := (mkS σ [] [] [(11, (upd (upd (σ.2.2.1 11) (x1.toNatClampNeg) y5) (x2.toNatClampNeg) y7))] [])) (f := (upd (σ.2.2.1 11) (x1.toNatClampNeg) y5)) hx hb hK hG (ga_11 g _) hg6 ((gs_11 g _ _).trans (congrArg (g_cells g) (mk_c 0 rfl rfl))) dX2_part_36 (fun H locs hG => ?_)
    exact n37 (upd (upd (σ.2.2.1 11) (x1.toNatClampNeg) y5) (x2.toNatClampNeg) y7) _ _ _ (lv_sub hl [] rfl) hG h

set_option maxHeartbeats 4000000 in
set_option maxRecDepth 100000 in
theorem c_LN_road (l : Launch) (g : GC) (σ : St) (x1 : Int32) (x2 : Int32) (x3 : Int32) (r : Int32) (w_likeness_ready : Int32) (w_pairs_ready : Int32) (w_search_reach : Int32) (w_ways_ready : Int32) (w_now_near : Nat → Int32) (h : LN_road x1 x2 x3 (σ.1 1539) (σ.1 641) (σ.1 2632) (σ.1 2372) (σ.1 1283) (σ.2.2.1 11) = some (r, w_likeness_ready, w_pairs_ready, w_search_reach, w_ways_ready, w_now_near)) : Cn l g yX8_road (Cond.code yX8_road cX8_road 4 (some .int) :: wG) 3 65 [.ref (g.2.1 0), .int x1, .int x2, .int x3] σ (some (.int r)) (mkS σ [(1539, w_likeness_ready), (2632, w_pairs_ready), (2372, w_search_reach), (1283, w_ways_ready)] [] [(11, w_now_near)] []) := by
  unfold Cn
  refine Met.ofW (cc := cX8_road) (maxL := 4) (ret := (some .int)) (by decide) rfl ?_
  intro p e s m args below meth c s₁ B hml hv
  obtain ⟨hargs, hP0, hK⟩ := hv
  have hx := B.exec
  have hb := B.bytes
  have hr := B.returns
  have hts : ∀ w ∈ wG, w.before args s = true := fun w h => atoms_spec (ws := (Cond.code yX8_road cX8_road 4 (some .int) :: wG)) B.pre w (List.mem_cons_of_mem _ h)
  have hown : s.vm.findClass RX8 = some m.cls := findClass_of_methodNamed B.named
  have hlocks := B.notSynchronized
  have hS9 : CallFix p m c cX8_road 4 s args wG RX8 := ⟨hx, hb, hml, hown, hts⟩
  have hw0 := hts _ mw_2_38
  have hf9 : entryFrame m args 4 = _ := (congrArg (fun a => entryFrame m a 4) hargs).trans (lg_entry_eq m [.ref (g.2.1 0), .int x1, .int x2, .int x3] 4)
  show Wg p l e 3 65 s m args below meth c g (some (.int r)) (mkS σ [(1539, w_likeness_ready), (2632, w_pairs_ready), (2372, w_search_reach), (1283, w_ways_ready)] [] [(11, w_now_near)] []) s.heap [] (entryFrame m args 4)
  rw [hf9]
  have hl := lv_entry ([.ref (g.2.1 0), .int x1, .int x2, .int x3]) (n := 4) (Nat.le_of_ble_eq_true rfl)
  generalize (lg_sl ([.ref (g.2.1 0), .int x1, .int x2, .int x3]) ++ List.replicate (4 - (lg_sl ([.ref (g.2.1 0), .int x1, .int x2, .int x3])).length) Slot.unset).toArray = ls at hl ⊢
  have hl : lv_has ls 4 [(0, .ref (g.2.1 0)), (1, .int x1), (2, .int x2), (3, .int x3)] := hl
  have hG : GW g s σ s.heap [] := ⟨hP0, va_S.rf⟩
  have hG : GW g s (mkS σ [(1539, (σ.1 1539)), (2632, (σ.1 2632)), (2372, (σ.1 2372)), (1283, (σ.1 1283))] [] [(11, (σ.2.2.1 11))] []) s.heap [] := GW_self [1539, 2632, 2372, 1283] [] [11] [] hG
  unfold LN_road at h
  have n54 : ∀ (v_likeness_ready : Int32) (v_pairs_ready : Int32) (v_search_reach : Int32) (v_ways_ready : Int32) (v_now_near : Nat → Int32) (H : Heap) (locs : List Loc) (ls : Array Slot), lv_has ls 4 [(0, .ref (g.2.1 0))] → GW g s (mkS σ [(1539, v_likeness_ready), (2632, v_pairs_ready), (2372, v_search_reach), (1283, v_ways_ready)] [] [(11, v_now_near)] []) H locs → LN_road_n54 v_likeness_ready v_pairs_ready v_search_reach v_ways_ready v_now_near = some (r, w_likeness_ready, w_pairs_ready, w_search_reach, w_ways_ready, w_now_near) → Wg p l e 3 65 s m args below meth c g (some (.int r)) (mkS σ [(1539, w_likeness_ready), (2632, w_pairs_ready), (2372, w_search_reach), (1283, w_ways_ready)] [] [(11, w_now_near)] []) H locs (F0 m 54 ls []) := by
    intro v_likeness_ready v_pairs_ready v_search_reach v_ways_ready v_now_near H locs ls hl hG h
    unfold LN_road_n54 at h
    refine lv_aload_n hx hb dX8_road_54 rfl (lv_at hl 0 rfl) ?_
    obtain ⟨z1, hc2, h⟩ := bnd_some h
    refine gx_cV (σ' := (mkS σ [(1539, z1.1), (2632, z1.2.1), (2372, z1.2.2.1), (1283, z1.2.2.2)] [] [(11, v_now_near)] [])) (r := none) (rest := []) (As := []) hS9 (c_LN_forget l g (mkS σ [(1539, v_likeness_ready), (2632, v_pairs_ready), (2372, v_search_reach), (1283, v_ways_ready)] [] [(11, v_now_near)] []) z1.1 z1.2.1 z1.2.2.1 z1.2.2.2 hc2) (mk_mk rfl rfl rfl rfl) (cwV 0 hts (gz_V mw_2_114 mw_2_116 ms_1_0 mw_1_1 mw_2_117) rfl rfl rfl hdV_X8_forget ⟨Nat.le_of_ble_eq_true rfl, Nat.le_of_ble_eq_true rfl⟩) hK hG (ga_0 g _) rfl rfl rfl hl.1 rfl (Nat.le_of_ble_eq_true rfl) dX8_road_55 (fun H locs hG => ?_)
    refine W.eq (g2 := F0 m 58 ls []) rfl ?_
    refine lv_iconst (v := (1 : Int32)) hx hb dX8_road_58 (by decide) ?_
    cases h
    exact gx_iret hx hb hr hlocks hG dX8_road_59
  refine lv_aload_n hx hb dX8_road_0 rfl (lv_at hl 0 rfl) ?_
  refine gx_get (v := .ref (g.2.1 10)) (C := RX8) (T := TX8) (N := 13) hx hb hts mc_X8 hown hK hG (ga_0 g _) rfl 1 (by decide) hw0 rfl rfl dX8_road_1 ?_
  refine lv_iload_n hx hb dX8_road_4 rfl (lv_at hl 1 rfl) ?_
  refine lv_iload_n hx hb dX8_road_5 rfl (lv_at hl 2 rfl) ?_
  obtain ⟨z3, hc4, h⟩ := bnd_some h
  refine gx_cV (σ' := (mkS σ [(1539, (σ.1 1539)), (2632, (σ.1 2632)), (2372, (σ.1 2372)), (1283, (σ.1 1283))] [] [(11, (σ.2.2.1 11))] [])) (r := (some (.int z3))) (rest := []) (As := [.int x1, .int x2]) hS9 (c_Net_mayJoin_10 l g (mkS σ [(1539, (σ.1 1539)), (2632, (σ.1 2632)), (2372, (σ.1 2372)), (1283, (σ.1 1283))] [] [(11, (σ.2.2.1 11))] []) x1 x2 z3 hc4) rfl (cwV 2 hts (gz_V mw_2_122 mw_2_123 mw_2_124 mw_1_3 mw_2_125) rfl rfl rfl hdV_X2_mayJoin ⟨Nat.le_of_ble_eq_true rfl, Nat.le_of_ble_eq_true rfl⟩) hK hG (ga_10 g _) rfl rfl rfl hl.1 rfl (Nat.le_of_ble_eq_true rfl) dX8_road_6 (fun H locs hG => ?_)
  refine W.eq (g2 := F0 m 9 ls [.int z3]) rfl ?_
  refine lv_if_ne (tgt := 14) hx hb dX8_road_9 (by decide) (fun c5 => ?_) (fun c5 => ?_)
  · have h := ite_f c5 h
    refine lv_aload_n hx hb dX8_road_14 rfl (lv_at hl 0 rfl) ?_
    refine gx_get (v := .ref (g.2.1 10)) (C := RX8) (T := TX8) (N := 13) hx hb hts mc_X8 hown hK hG (ga_0 g _) rfl 1 (by decide) hw0 rfl rfl dX8_road_15 ?_
    refine lv_iload_n hx hb dX8_road_18 rfl (lv_at hl 1 rfl) ?_
    refine lv_iload_n hx hb dX8_road_19 rfl (lv_at hl 2 rfl) ?_
    obtain ⟨z6, hc7, h⟩ := bnd_some h
    refine gx_cV (σ' := (mkS σ [(1539, (σ.1 1539)), (2632, (σ.1 2632)), (2372, (σ.1 2372)), (1283, (σ.1 1283))] [] [(11, (σ.2.2.1 11))] [])) (r := (some (.int z6))) (rest := []) (As := [.int x1, .int x2]) hS9 (c_Net_areJoined_10 l g (mkS σ [(1539, (σ.1 1539)), (2632, (σ.1 2632)), (2372, (σ.1 2372)), (1283, (σ.1 1283))] [] [(11, (σ.2.2.1 11))] []) x1 x2 z6 hc7) rfl (cwV 2 hts (gz_V mw_2_130 mw_2_131 mw_2_132 mw_1_3 mw_2_133) rfl rfl rfl hdV_X2_areJoined ⟨Nat.le_of_ble_eq_true rfl, Nat.le_of_ble_eq_true rfl⟩) hK hG (ga_10 g _) rfl rfl rfl hl.1 rfl (Nat.le_of_ble_eq_true rfl) dX8_road_20 (fun H locs hG => ?_)
    refine W.eq (g2 := F0 m 23 ls [.int z6]) rfl ?_
    refine lv_iload_n hx hb dX8_road_23 rfl (lv_at hl 3 rfl) ?_
    refine lv_icmp_ne (tgt := 29) hx hb dX8_road_24 (by decide) (fun c8 => ?_) (fun c8 => ?_)
    · have h := ite_f c8 h
      refine lv_iload_n hx hb dX8_road_29 rfl (lv_at hl 3 rfl) ?_
      refine lv_if_eq (tgt := 45) hx hb dX8_road_30 (by decide) (fun c9 => ?_) (fun c9 => ?_)
      · have h := ite_t c9 h
        refine lv_aload_n hx hb dX8_road_45 rfl (lv_at hl 0 rfl) ?_
        refine gx_get (v := .ref (g.2.1 10)) (C := RX8) (T := TX8) (N := 13) hx hb hts mc_X8 hown hK hG (ga_0 g _) rfl 1 (by decide) hw0 rfl rfl dX8_road_46 ?_
        refine lv_iload_n hx hb dX8_road_49 rfl (lv_at hl 1 rfl) ?_
        refine lv_iload_n hx hb dX8_road_50 rfl (lv_at hl 2 rfl) ?_
        obtain ⟨z10, hc11, h⟩ := bnd_some h
        refine gx_cV (σ' := (mkS σ [(1539, (σ.1 1539)), (2632, (σ.1 2632)), (2372, (σ.1 2372)), (1283, (σ.1 1283))] [] [(11, z10)] [])) (r := none) (rest := []) (As := [.int x1, .int x2]) hS9 (c_Net_part_10 l g (mkS σ [(1539, (σ.1 1539)), (2632, (σ.1 2632)), (2372, (σ.1 2372)), (1283, (σ.1 1283))] [] [(11, (σ.2.2.1 11))] []) x1 x2 z10 hc11) (mk_mk rfl rfl rfl rfl) (cwV 2 hts (gz_V mw_2_142 mw_2_143 mw_2_144 mw_1_3 mw_2_145) rfl rfl rfl hdV_X2_part ⟨Nat.le_of_ble_eq_true rfl, Nat.le_of_ble_eq_true rfl⟩) hK hG (ga_10 g _) rfl rfl rfl hl.1 rfl (Nat.le_of_ble_eq_true rfl) dX8_road_51 (fun H locs hG => ?_)
        refine W.eq (g2 := F0 m 54 ls []) rfl ?_
        exact n54 (σ.1 1539) (σ.1 2632) (σ.1 2372) (σ.1 1283) z10 _ _ _ (lv_sub hl [0] rfl) hG h
      · have h := ite_f c9 h
        refine lv_aload_n hx hb dX8_road_33 rfl (lv_at hl 0 rfl) ?_
        refine gx_get (v := .ref (g.2.1 10)) (C := RX8) (T := TX8) (N := 13) hx hb hts mc_X8 hown hK hG (ga_0 g _) rfl 1 (by decide) hw0 rfl rfl dX8_road_34 ?_
        refine lv_iload_n hx hb dX8_road_37 rfl (lv_at hl 1 rfl) ?_
        refine lv_iload_n hx hb dX8_road_38 rfl (lv_at hl 2 rfl) ?_
        obtain ⟨z12, hc13, h⟩ := bnd_some h
        refine gx_cV (σ' := (mkS σ [(1539, (σ.1 1539)), (2632, (σ.1 2632)), (2372, (σ.1 2372)), (1283, (σ.1 1283))] [] [(11, z12)] [])) (r := none) (rest := []) (As := [.int x1, .int x2]) hS9 (c_Net_join_10 l g (mkS σ [(1539, (σ.1 1539)), (2632, (σ.1 2632)), (2372, (σ.1 2372)), (1283, (σ.1 1283))] [] [(11, (σ.2.2.1 11))] []) x1 x2 z12 hc13) (mk_mk rfl rfl rfl rfl) (cwV 2 hts (gz_V mw_2_137 mw_2_138 mw_2_139 mw_1_3 mw_2_140) rfl rfl rfl hdV_X2_join ⟨Nat.le_of_ble_eq_true rfl, Nat.le_of_ble_eq_true rfl⟩) hK hG (ga_10 g _) rfl rfl rfl hl.1 rfl (Nat.le_of_ble_eq_true rfl) dX8_road_39 (fun H locs hG => ?_)
        refine W.eq (g2 := F0 m 42 ls []) rfl ?_
        refine lv_goto (tgt := 54) hx hb dX8_road_42 (by decide) ?_
        exact n54 (σ.1 1539) (σ.1 2632) (σ.1 2372) (σ.1 1283) z12 _ _ _ (lv_sub hl [0] rfl) hG h
    · have h := ite_t c8 h
      refine lv_iconst (v := (0 : Int32)) hx hb dX8_road_27 (by decide) ?_
      cases h
      exact gx_iret hx hb hr hlocks hG dX8_road_28
  · have h := ite_t c5 h
    refine lv_iconst (v := (-1 : Int32)) hx hb dX8_road_12 (by decide) ?_
    cases h
    exact gx_iret hx hb hr hlocks hG dX8_road_13

set_option maxHeartbeats 4000000 in
set_option maxRecDepth 100000 in
theorem c_LN_root (l : Launch) (g : GC) (σ : St) (x1 : Int32) (x2 : Int32) (r : Int32) (w_told_broken : Int32) (w_told_judged : Int32) (w_told_rootCount : Int32) (w_told_total : Int64) (w_told_roots : Nat → Int32) (w_told_times : Nat → Int32) (w_told_k : Nat → Int64) (w_told_scaled : Nat → Int64) (w_told_t : Nat → Int64) (h : LN_root x1 x2 (σ.1 1802) (σ.1 1804) (σ.1 1800) (σ.1 1801) (σ.2.1 1803) (σ.2.2.1 29) (σ.2.2.1 30) (σ.2.2.1 35) (σ.2.2.1 36) (σ.2.2.2 31) (σ.2.2.2 33) (σ.2.2.2 32) = some (r, w_told_broken, w_told_judged, w_told_rootCount, w_told_total, w_told_roots, w_told_times, w_told_k, w_told_scaled, w_told_t)) : Cn l g yX8_root (Cond.code yX8_root cX8_root 3 (some .int) :: wG) 6 134 [.ref (g.2.1 0), .int x1, .int x2] σ (some (.int r)) (mkS σ [(1802, w_told_broken), (1804, w_told_judged), (1801, w_told_rootCount)] [(1803, w_told_total)] [(35, w_told_roots), (36, w_told_times)] [(31, w_told_k), (33, w_told_scaled), (32, w_told_t)]) := by
  unfold Cn
  refine Met.ofW (cc := cX8_root) (maxL := 3) (ret := (some .int)) (by decide) rfl ?_
  intro p e s m args below meth c s₁ B hml hv
  obtain ⟨hargs, hP0, hK⟩ := hv
  have hx := B.exec
  have hb := B.bytes
  have hr := B.returns
  have hts : ∀ w ∈ wG, w.before args s = true := fun w h => atoms_spec (ws := (Cond.code yX8_root cX8_root 3 (some .int) :: wG)) B.pre w (List.mem_cons_of_mem _ h)
  have hown : s.vm.findClass RX8 = some m.cls := findClass_of_methodNamed B.named
  have hlocks := B.notSynchronized
  have hS9 : CallFix p m c cX8_root 3 s args wG RX8 := ⟨hx, hb, hml, hown, hts⟩
  have hw0 := hts _ mw_2_46
  have hw1 := hts _ mw_1_174
  have hw2 := hts _ mw_1_170
  have hw3 := hts _ mw_1_168
  have hf9 : entryFrame m args 3 = _ := (congrArg (fun a => entryFrame m a 3) hargs).trans (lg_entry_eq m [.ref (g.2.1 0), .int x1, .int x2] 3)
  show Wg p l e 6 134 s m args below meth c g (some (.int r)) (mkS σ [(1802, w_told_broken), (1804, w_told_judged), (1801, w_told_rootCount)] [(1803, w_told_total)] [(35, w_told_roots), (36, w_told_times)] [(31, w_told_k), (33, w_told_scaled), (32, w_told_t)]) s.heap [] (entryFrame m args 3)
  rw [hf9]
  have hl := lv_entry ([.ref (g.2.1 0), .int x1, .int x2]) (n := 3) (Nat.le_of_ble_eq_true rfl)
  generalize (lg_sl ([.ref (g.2.1 0), .int x1, .int x2]) ++ List.replicate (3 - (lg_sl ([.ref (g.2.1 0), .int x1, .int x2])).length) Slot.unset).toArray = ls at hl ⊢
  have hl : lv_has ls 3 [(0, .ref (g.2.1 0)), (1, .int x1), (2, .int x2)] := hl
  have hG : GW g s σ s.heap [] := ⟨hP0, va_S.rf⟩
  have hG : GW g s (mkS σ [(1802, (σ.1 1802)), (1804, (σ.1 1804)), (1801, (σ.1 1801))] [(1803, (σ.2.1 1803))] [(35, (σ.2.2.1 35)), (36, (σ.2.2.1 36))] [(31, (σ.2.2.2 31)), (33, (σ.2.2.2 33)), (32, (σ.2.2.2 32))]) s.heap [] := GW_self [1802, 1804, 1801] [1803] [35, 36] [31, 33, 32] hG
  unfold LN_root at h
  have n44 : ∀ (v_told_broken : Int32) (v_told_judged : Int32) (v_told_rootCount : Int32) (v_told_total : Int64) (v_told_roots : Nat → Int32) (v_told_times : Nat → Int32) (v_told_k : Nat → Int64) (v_told_scaled : Nat → Int64) (v_told_t : Nat → Int64) (H : Heap) (locs : List Loc) (ls : Array Slot), lv_has ls 3 [] → GW g s (mkS σ [(1802, v_told_broken), (1804, v_told_judged), (1801, v_told_rootCount)] [(1803, v_told_total)] [(35, v_told_roots), (36, v_told_times)] [(31, v_told_k), (33, v_told_scaled), (32, v_told_t)]) H locs → LN_root_n44 v_told_broken v_told_judged v_told_rootCount v_told_total v_told_roots v_told_times v_told_k v_told_scaled v_told_t = some (r, w_told_broken, w_told_judged, w_told_rootCount, w_told_total, w_told_roots, w_told_times, w_told_k, w_told_scaled, w_told_t) → Wg p l e 6 134 s m args below meth c g (some (.int r)) (mkS σ [(1802, w_told_broken), (1804, w_told_judged), (1801, w_told_rootCount)] [(1803, w_told_total)] [(35, w_told_roots), (36, w_told_times)] [(31, w_told_k), (33, w_told_scaled), (32, w_told_t)]) H locs (F0 m 44 ls []) := by
    intro v_told_broken v_told_judged v_told_rootCount v_told_total v_told_roots v_told_times v_told_k v_told_scaled v_told_t H locs ls hl hG h
    unfold LN_root_n44 at h
    refine lv_sipush (v := (-1002 : Int32)) hx hb dX8_root_44 (by decide) ?_
    cases h
    exact gx_iret hx hb hr hlocks hG dX8_root_47
  have n73 : ∀ (t0 : Int32) (v_told_broken : Int32) (v_told_judged : Int32) (v_told_rootCount : Int32) (v_told_total : Int64) (v_told_roots : Nat → Int32) (v_told_times : Nat → Int32) (v_told_k : Nat → Int64) (v_told_scaled : Nat → Int64) (v_told_t : Nat → Int64) (H : Heap) (locs : List Loc) (ls : Array Slot), lv_has ls 3 [] → GW g s (mkS σ [(1802, v_told_broken), (1804, v_told_judged), (1801, v_told_rootCount)] [(1803, v_told_total)] [(35, v_told_roots), (36, v_told_times)] [(31, v_told_k), (33, v_told_scaled), (32, v_told_t)]) H locs → LN_root_n73 t0 v_told_broken v_told_judged v_told_rootCount v_told_total v_told_roots v_told_times v_told_k v_told_scaled v_told_t = some (r, w_told_broken, w_told_judged, w_told_rootCount, w_told_total, w_told_roots, w_told_times, w_told_k, w_told_scaled, w_told_t) → Wg p l e 6 134 s m args below meth c g (some (.int r)) (mkS σ [(1802, w_told_broken), (1804, w_told_judged), (1801, w_told_rootCount)] [(1803, w_told_total)] [(35, w_told_roots), (36, w_told_times)] [(31, w_told_k), (33, w_told_scaled), (32, w_told_t)]) H locs (F0 m 73 ls [.int t0]) := by
    intro t0 v_told_broken v_told_judged v_told_rootCount v_told_total v_told_roots v_told_times v_told_k v_told_scaled v_told_t H locs ls hl hG h
    unfold LN_root_n73 at h
    cases h
    exact gx_iret hx hb hr hlocks hG dX8_root_73
  have n13 : ∀ (x1 : Int32) (x2 : Int32) (v_told_broken : Int32) (v_told_judged : Int32) (v_told_rootCount : Int32) (v_told_total : Int64) (v_told_roots : Nat → Int32) (v_told_times : Nat → Int32) (v_told_k : Nat → Int64) (v_told_scaled : Nat → Int64) (v_told_t : Nat → Int64) (H : Heap) (locs : List Loc) (ls : Array Slot), lv_has ls 3 [(0, .ref (g.2.1 0)), (1, .int x1), (2, .int x2)] → GW g s (mkS σ [(1802, v_told_broken), (1804, v_told_judged), (1801, v_told_rootCount)] [(1803, v_told_total)] [(35, v_told_roots), (36, v_told_times)] [(31, v_told_k), (33, v_told_scaled), (32, v_told_t)]) H locs → LN_root_n13 (σ.1 1800) (σ.2.2.1 29) (σ.2.2.1 30) x1 x2 v_told_broken v_told_judged v_told_rootCount v_told_total v_told_roots v_told_times v_told_k v_told_scaled v_told_t = some (r, w_told_broken, w_told_judged, w_told_rootCount, w_told_total, w_told_roots, w_told_times, w_told_k, w_told_scaled, w_told_t) → Wg p l e 6 134 s m args below meth c g (some (.int r)) (mkS σ [(1802, w_told_broken), (1804, w_told_judged), (1801, w_told_rootCount)] [(1803, w_told_total)] [(35, w_told_roots), (36, w_told_times)] [(31, w_told_k), (33, w_told_scaled), (32, w_told_t)]) H locs (F0 m 13 ls []) := by
    intro x1 x2 v_told_broken v_told_judged v_told_rootCount v_told_total v_told_roots v_told_times v_told_k v_told_scaled v_told_t H locs ls hl hG h
    unfold LN_root_n13 at h
    refine lv_aload_n hx hb dX8_root_13 rfl (lv_at hl 0 rfl) ?_
    refine gx_get (v := .ref (g.2.1 28)) (C := RX8) (T := TX8) (N := 13) hx hb hts mc_X8 hown hK hG (ga_0 g _) rfl 9 (by decide) hw0 rfl rfl dX8_root_14 ?_
    refine lv_bipush (v := (6 : Int32)) hx hb dX8_root_17 (by decide) ?_
    obtain ⟨z1, hc2, h⟩ := bnd_some h
    refine gx_cV (σ' := (mkS σ [(1802, z1.2.1), (1804, z1.2.2.1), (1801, z1.2.2.2.1)] [(1803, z1.2.2.2.2.1)] [(35, z1.2.2.2.2.2.1), (36, z1.2.2.2.2.2.2.1)] [(31, z1.2.2.2.2.2.2.2.1), (33, z1.2.2.2.2.2.2.2.2.1), (32, z1.2.2.2.2.2.2.2.2.2)])) (r := (some (.int z1.1))) (rest := []) (As := [.int (6 : Int32)]) hS9 (c_Td_keepsLawsTo l g (mkS σ [(1802, v_told_broken), (1804, v_told_judged), (1801, v_told_rootCount)] [(1803, v_told_total)] [(35, v_told_roots), (36, v_told_times)] [(31, v_told_k), (33, v_told_scaled), (32, v_told_t)]) (6 : Int32) z1.1 z1.2.1 z1.2.2.1 z1.2.2.2.1 z1.2.2.2.2.1 z1.2.2.2.2.2.1 z1.2.2.2.2.2.2.1 z1.2.2.2.2.2.2.2.1 z1.2.2.2.2.2.2.2.2.1 z1.2.2.2.2.2.2.2.2.2 hc2) (mk_mk rfl rfl rfl rfl) (cwV 1 hts (gz_V mw_3_213 mw_3_214 mw_3_215 mw_1_7 mw_3_216) rfl rfl rfl hdV_X6_keepsLawsTo ⟨Nat.le_of_ble_eq_true rfl, Nat.le_of_ble_eq_true rfl⟩) hK hG (ga_28 g _) rfl rfl rfl hl.1 rfl (Nat.le_of_ble_eq_true rfl) dX8_root_19 (fun H locs hG => ?_)
    refine W.eq (g2 := F0 m 22 ls [.int z1.1]) rfl ?_
    refine lv_if_ne (tgt := 29) hx hb dX8_root_22 (by decide) (fun c3 => ?_) (fun c3 => ?_)
    · have h := ite_f c3 h
      refine lv_iload_n hx hb dX8_root_29 rfl (lv_at hl 1 rfl) ?_
      refine lv_if_lt (tgt := 44) hx hb dX8_root_30 (by decide) (fun c4 => ?_) (fun c4 => ?_)
      · have h := ite_t c4 h
        exact n44 z1.2.1 z1.2.2.1 z1.2.2.2.1 z1.2.2.2.2.1 z1.2.2.2.2.2.1 z1.2.2.2.2.2.2.1 z1.2.2.2.2.2.2.2.1 z1.2.2.2.2.2.2.2.2.1 z1.2.2.2.2.2.2.2.2.2 _ _ _ (lv_sub hl [] rfl) hG h
      · have h := ite_f c4 h
        refine lv_iload_n hx hb dX8_root_33 rfl (lv_at hl 1 rfl) ?_
        refine lv_aload_n hx hb dX8_root_34 rfl (lv_at hl 0 rfl) ?_
        refine gx_get (v := .ref (g.2.1 28)) (C := RX8) (T := TX8) (N := 13) hx hb hts mc_X8 hown hK hG (ga_0 g _) rfl 9 (by decide) hw0 rfl rfl dX8_root_35 ?_
        refine gx_get (v := .int z1.2.2.2.1) (C := RX6) (T := TX6) (N := 13) hx hb hts mc_X6 hown hK hG (ga_28 g _) rfl 9 (by decide) hw1 rfl rfl dX8_root_38 ?_
        refine lv_icmp_lt (tgt := 48) hx hb dX8_root_41 (by decide) (fun c5 => ?_) (fun c5 => ?_)
        · have h := ite_t c5 h
          refine lv_iload_n hx hb dX8_root_48 rfl (lv_at hl 2 rfl) ?_
          refine lv_if_ne (tgt := 64) hx hb dX8_root_49 (by decide) (fun c6 => ?_) (fun c6 => ?_)
          · have h := ite_f c6 h
            refine lv_aload_n hx hb dX8_root_64 rfl (lv_at hl 0 rfl) ?_
            refine gx_get (v := .ref (g.2.1 28)) (C := RX8) (T := TX8) (N := 13) hx hb hts mc_X8 hown hK hG (ga_0 g _) rfl 9 (by decide) hw0 rfl rfl dX8_root_65 ?_
            refine gx_get (v := .ref (g.2.1 36)) (C := RX6) (T := TX6) (N := 13) hx hb hts mc_X6 hown hK hG (ga_28 g _) rfl 7 (by decide) hw2 rfl rfl dX8_root_68 ?_
            refine lv_iload_n hx hb dX8_root_71 rfl (lv_at hl 1 rfl) ?_
            obtain ⟨hg7, h⟩ := gd_some h
            refine gx_iald (f := z1.2.2.2.2.2.2.1) hx hb hK hG (ga_36 g _) hg7 dX8_root_72 ?_
            exact n73 (z1.2.2.2.2.2.2.1 (x1.toNatClampNeg)) z1.2.1 z1.2.2.1 z1.2.2.2.1 z1.2.2.2.2.1 z1.2.2.2.2.2.1 z1.2.2.2.2.2.2.1 z1.2.2.2.2.2.2.2.1 z1.2.2.2.2.2.2.2.2.1 z1.2.2.2.2.2.2.2.2.2 _ _ _ (lv_sub hl [] rfl) hG h
          · have h := ite_t c6 h
            refine lv_aload_n hx hb dX8_root_52 rfl (lv_at hl 0 rfl) ?_
            refine gx_get (v := .ref (g.2.1 28)) (C := RX8) (T := TX8) (N := 13) hx hb hts mc_X8 hown hK hG (ga_0 g _) rfl 9 (by decide) hw0 rfl rfl dX8_root_53 ?_
            refine gx_get (v := .ref (g.2.1 35)) (C := RX6) (T := TX6) (N := 13) hx hb hts mc_X6 hown hK hG (ga_28 g _) rfl 6 (by decide) hw3 rfl rfl dX8_root_56 ?_
            refine lv_iload_n hx hb dX8_root_59 rfl (lv_at hl 1 rfl) ?_
            obtain ⟨hg8, h⟩ := gd_some h
            refine gx_iald (f := z1.2.2.2.2.2.1) hx hb hK hG (ga_35 g _) hg8 dX8_root_60 ?_
            refine lv_goto (tgt := 73) hx hb dX8_root_61 (by decide) ?_
            exact n73 (z1.2.2.2.2.2.1 (x1.toNatClampNeg)) z1.2.1 z1.2.2.1 z1.2.2.2.1 z1.2.2.2.2.1 z1.2.2.2.2.2.1 z1.2.2.2.2.2.2.1 z1.2.2.2.2.2.2.2.1 z1.2.2.2.2.2.2.2.2.1 z1.2.2.2.2.2.2.2.2.2 _ _ _ (lv_sub hl [] rfl) hG h
        · have h := ite_f c5 h
          exact n44 z1.2.1 z1.2.2.1 z1.2.2.2.1 z1.2.2.2.2.1 z1.2.2.2.2.2.1 z1.2.2.2.2.2.2.1 z1.2.2.2.2.2.2.2.1 z1.2.2.2.2.2.2.2.2.1 z1.2.2.2.2.2.2.2.2.2 _ _ _ (lv_sub hl [] rfl) hG h
    · have h := ite_t c3 h
      refine lv_sipush (v := (-1001 : Int32)) hx hb dX8_root_25 (by decide) ?_
      cases h
      exact gx_iret hx hb hr hlocks hG dX8_root_28
  refine lv_iload_n hx hb dX8_root_0 rfl (lv_at hl 2 rfl) ?_
  refine lv_if_eq (tgt := 13) hx hb dX8_root_1 (by decide) (fun c9 => ?_) (fun c9 => ?_)
  · have h := ite_t c9 h
    exact n13 x1 x2 (σ.1 1802) (σ.1 1804) (σ.1 1801) (σ.2.1 1803) (σ.2.2.1 35) (σ.2.2.1 36) (σ.2.2.2 31) (σ.2.2.2 33) (σ.2.2.2 32) _ _ _ (lv_sub hl [0, 1, 2] rfl) hG h
  · have h := ite_f c9 h
    refine lv_iload_n hx hb dX8_root_4 rfl (lv_at hl 2 rfl) ?_
    refine lv_iconst (v := (1 : Int32)) hx hb dX8_root_5 (by decide) ?_
    refine lv_icmp_eq (tgt := 13) hx hb dX8_root_6 (by decide) (fun c10 => ?_) (fun c10 => ?_)
    · have h := ite_t c10 h
      exact n13 x1 x2 (σ.1 1802) (σ.1 1804) (σ.1 1801) (σ.2.1 1803) (σ.2.2.1 35) (σ.2.2.1 36) (σ.2.2.2 31) (σ.2.2.2 33) (σ.2.2.2 32) _ _ _ (lv_sub hl [0, 1, 2] rfl) hG h
    · have h := ite_f c10 h
      refine lv_sipush (v := (-1000 : Int32)) hx hb dX8_root_9 (by decide) ?_
      cases h
      exact gx_iret hx hb hr hlocks hG dX8_root_12

set_option maxHeartbeats 4000000 in
set_option maxRecDepth 100000 in
theorem c_JA_fillI_3 (l : Launch) (g : GC) (σ : St) (x1 : Int32) (w_r0 : Nat → Int32) (h : JA_fillI x1 60 (σ.2.2.1 3) = some w_r0) : Cn l g yJ7_fill_53178 (Cond.code yJ7_fill_53178 cJ7_fill_53178 4 none :: wG) 0 0 [.ref (g.2.1 3), .int x1] σ none (mkS σ [] [] [(3, w_r0)] []) := by
  unfold Cn
  refine Met.ofW (cc := cJ7_fill_53178) (maxL := 4) (ret := none) (by decide) rfl ?_
  intro p e s m args below meth c s₁ B hml hv
  obtain ⟨hargs, hP0, hK⟩ := hv
  have hx := B.exec
  have hb := B.bytes
  have hr := B.returns
  have hts : ∀ w ∈ wG, w.before args s = true := fun w h => atoms_spec (ws := (Cond.code yJ7_fill_53178 cJ7_fill_53178 4 none :: wG)) B.pre w (List.mem_cons_of_mem _ h)
  have hown : s.vm.findClass RJ7 = some m.cls := findClass_of_methodNamed B.named
  have hlocks := B.notSynchronized
  have hf9 : entryFrame m args 4 = _ := (congrArg (fun a => entryFrame m a 4) hargs).trans (lg_entry_eq m [.ref (g.2.1 3), .int x1] 4)
  show Wg p l e 0 0 s m args below meth c g none (mkS σ [] [] [(3, w_r0)] []) s.heap [] (entryFrame m args 4)
  rw [hf9]
  have hl := lv_entry ([.ref (g.2.1 3), .int x1]) (n := 4) (Nat.le_of_ble_eq_true rfl)
  generalize (lg_sl ([.ref (g.2.1 3), .int x1]) ++ List.replicate (4 - (lg_sl ([.ref (g.2.1 3), .int x1])).length) Slot.unset).toArray = ls at hl ⊢
  have hl : lv_has ls 4 [(0, .ref (g.2.1 3)), (1, .int x1)] := hl
  have hG : GW g s σ s.heap [] := ⟨hP0, va_S.rf⟩
  have hG : GW g s (mkS σ [] [] [(3, (σ.2.2.1 3))] []) s.heap [] := GW_self [] [] [3] [] hG
  unfold JA_fillI at h
  have n20 : ∀ (v_r0 : Nat → Int32) (H : Heap) (locs : List Loc) (ls : Array Slot), lv_has ls 4 [] → GW g s (mkS σ [] [] [(3, v_r0)] []) H locs → JA_fillI_n20 60 v_r0 = some w_r0 → Wg p l e 0 0 s m args below meth c g none (mkS σ [] [] [(3, w_r0)] []) H locs (F0 m 20 ls []) := by
    intro v_r0 H locs ls hl hG h
    unfold JA_fillI_n20 at h
    cases h
    exact gx_vret hx hb hr hlocks hG dJ7_fill_53178_20
  have n5 : ∀ (k5 : Int32 → Int32 → Int32 → (Nat → Int32) → Option ((Nat → Int32))) (hk5 : ∀ (x1 : Int32) (x2 : Int32) (x3 : Int32) (v_r0 : Nat → Int32) (H : Heap) (locs : List Loc) (ls : Array Slot), lv_has ls 4 [(0, .ref (g.2.1 3)), (1, .int x1), (2, .int x2), (3, .int x3)] → GW g s (mkS σ [] [] [(3, v_r0)] []) H locs → k5 x1 x2 x3 v_r0 = some w_r0 → Wg p l e 0 0 s m args below meth c g none (mkS σ [] [] [(3, w_r0)] []) H locs (F0 m 5 ls [])) (x1 : Int32) (x2 : Int32) (x3 : Int32) (v_r0 : Nat → Int32) (H : Heap) (locs : List Loc) (ls : Array Slot), lv_has ls 4 [(0, .ref (g.2.1 3)), (1, .int x1), (2, .int x2), (3, .int x3)] → GW g s (mkS σ [] [] [(3, v_r0)] []) H locs → JA_fillI_n5 k5 60 x1 x2 x3 v_r0 = some w_r0 → Wg p l e 0 0 s m args below meth c g none (mkS σ [] [] [(3, w_r0)] []) H locs (F0 m 5 ls []) := by
    intro k5 hk5 x1 x2 x3 v_r0 H locs ls hl hG h
    unfold JA_fillI_n5 at h
    refine lv_iload_n hx hb dJ7_fill_53178_5 rfl (lv_at hl 2 rfl) ?_
    refine lv_iload_n hx hb dJ7_fill_53178_6 rfl (lv_at hl 3 rfl) ?_
    refine lv_icmp_ge (tgt := 20) hx hb dJ7_fill_53178_7 (by decide) (fun c1 => ?_) (fun c1 => ?_)
    · have h := ite_t c1 h
      exact n20 v_r0 _ _ _ (lv_sub hl [] rfl) hG h
    · have h := ite_f c1 h
      refine lv_aload_n hx hb dJ7_fill_53178_10 rfl (lv_at hl 0 rfl) ?_
      refine lv_iload_n hx hb dJ7_fill_53178_11 rfl (lv_at hl 2 rfl) ?_
      refine lv_iload_n hx hb dJ7_fill_53178_12 rfl (lv_at hl 1 rfl) ?_
      obtain ⟨hg2, h⟩ := gd_some h
      refine gx_iast (σ' := (mkS σ [] [] [(3, (upd v_r0 (x2.toNatClampNeg) x1))] [])) (f := v_r0) hx hb hK hG (ga_3 g _) hg2 ((gs_3 g _ _).trans (congrArg (g_cells g) (mk_c 0 rfl rfl))) dJ7_fill_53178_13 (fun H locs hG => ?_)
      refine lv_iinc (v := (x2 + (1 : Int32))) (lv' := [(2, .int (x2 + (1 : Int32))), (0, .ref (g.2.1 3)), (1, .int x1), (3, .int x3)]) hx hb dJ7_fill_53178_14 hl (k := 2) rfl (congrArg (fun z => x2 + z) (by decide)) (Nat.le_of_ble_eq_true rfl) rfl (fun ls hl => ?_)
      refine lv_goto (tgt := 5) hx hb dJ7_fill_53178_17 (by decide) ?_
      exact hk5 x1 (x2 + (1 : Int32)) x3 (upd v_r0 (x2.toNatClampNeg) x1) _ _ _ (lv_sub hl [1, 2, 0, 3] rfl) hG h
  have l5 : ∀  (F : Nat) (x1 : Int32) (x2 : Int32) (x3 : Int32) (v_r0 : Nat → Int32) (H : Heap) (locs : List Loc) (ls : Array Slot), lv_has ls 4 [(0, .ref (g.2.1 3)), (1, .int x1), (2, .int x2), (3, .int x3)] → GW g s (mkS σ [] [] [(3, v_r0)] []) H locs → JA_fillI_l5 60 F x1 x2 x3 v_r0 = some w_r0 → Wg p l e 0 0 s m args below meth c g none (mkS σ [] [] [(3, w_r0)] []) H locs (F0 m 5 ls []) := by
    intro F
    induction F with
    | zero => intro x1 x2 x3 v_r0 H locs ls hl hG h; exact no_some h
    | succ F ih => intro x1 x2 x3 v_r0 H locs ls hl hG h; exact n5 (fun x1 x2 x3 v_r0 => JA_fillI_l5 60 F x1 x2 x3 v_r0) ih x1 x2 x3 v_r0 H locs ls hl hG h
  refine lv_iconst (v := (0 : Int32)) hx hb dJ7_fill_53178_0 (by decide) ?_
  refine lv_istore_n (lv' := [(2, .int (0 : Int32)), (0, .ref (g.2.1 3)), (1, .int x1)]) hx hb dJ7_fill_53178_1 rfl hl (Nat.le_of_ble_eq_true rfl) rfl (fun ls hl => ?_)
  refine lv_aload_n hx hb dJ7_fill_53178_2 rfl (lv_at hl 1 rfl) ?_
  refine gx_alen (v := (Int32.ofNat 60)) hx hb hK hG 0 (ga_3 g _) rfl rfl dJ7_fill_53178_3 ?_
  refine lv_istore_n (lv' := [(3, .int (Int32.ofNat 60)), (2, .int (0 : Int32)), (0, .ref (g.2.1 3)), (1, .int x1)]) hx hb dJ7_fill_53178_4 rfl hl (Nat.le_of_ble_eq_true rfl) rfl (fun ls hl => ?_)
  exact l5 FUEL x1 (0 : Int32) (Int32.ofNat 60) (σ.2.2.1 3) _ _ _ (lv_sub hl [2, 3, 1, 0] rfl) hG h

set_option maxHeartbeats 4000000 in
set_option maxRecDepth 100000 in
theorem c_Sh_lay_2 (l : Launch) (g : GC) (σ : St) (x1 : Int32) (x2 : Int32) (w_size : Int32) (w_sort : Int32) (w_there : Int32) (w_cells : Nat → Int32) (h : Sh_lay x1 x2 (σ.1 131) (σ.1 130) (σ.1 129) (σ.2.2.1 3) = some (w_size, w_sort, w_there, w_cells)) : Cn l g yX5_lay (Cond.code yX5_lay cX5_lay 3 none :: wG) 1 23 [.ref (g.2.1 2), .int x1, .int x2] σ none (mkS σ [(131, w_size), (130, w_sort), (129, w_there)] [] [(3, w_cells)] []) := by
  unfold Cn
  refine Met.ofW (cc := cX5_lay) (maxL := 3) (ret := none) (by decide) rfl ?_
  intro p e s m args below meth c s₁ B hml hv
  obtain ⟨hargs, hP0, hK⟩ := hv
  have hx := B.exec
  have hb := B.bytes
  have hr := B.returns
  have hts : ∀ w ∈ wG, w.before args s = true := fun w h => atoms_spec (ws := (Cond.code yX5_lay cX5_lay 3 none :: wG)) B.pre w (List.mem_cons_of_mem _ h)
  have hown : s.vm.findClass RX5 = some m.cls := findClass_of_methodNamed B.named
  have hlocks := B.notSynchronized
  have hS9 : CallFix p m c cX5_lay 3 s args wG RX5 := ⟨hx, hb, hml, hown, hts⟩
  have hw0 := hts _ mw_1_32
  have hw1 := hts _ mw_1_34
  have hw2 := hts _ mw_1_35
  have hw3 := hts _ mw_1_31
  have hf9 : entryFrame m args 3 = _ := (congrArg (fun a => entryFrame m a 3) hargs).trans (lg_entry_eq m [.ref (g.2.1 2), .int x1, .int x2] 3)
  show Wg p l e 1 23 s m args below meth c g none (mkS σ [(131, w_size), (130, w_sort), (129, w_there)] [] [(3, w_cells)] []) s.heap [] (entryFrame m args 3)
  rw [hf9]
  have hl := lv_entry ([.ref (g.2.1 2), .int x1, .int x2]) (n := 3) (Nat.le_of_ble_eq_true rfl)
  generalize (lg_sl ([.ref (g.2.1 2), .int x1, .int x2]) ++ List.replicate (3 - (lg_sl ([.ref (g.2.1 2), .int x1, .int x2])).length) Slot.unset).toArray = ls at hl ⊢
  have hl : lv_has ls 3 [(0, .ref (g.2.1 2)), (1, .int x1), (2, .int x2)] := hl
  have hG : GW g s σ s.heap [] := ⟨hP0, va_S.rf⟩
  have hG : GW g s (mkS σ [(131, (σ.1 131)), (130, (σ.1 130)), (129, (σ.1 129))] [] [(3, (σ.2.2.1 3))] []) s.heap [] := GW_self [131, 130, 129] [] [3] [] hG
  unfold Sh_lay at h
  refine lv_aload_n hx hb dX5_lay_0 rfl (lv_at hl 0 rfl) ?_
  refine lv_iconst (v := (1 : Int32)) hx hb dX5_lay_1 (by decide) ?_
  refine gx_put (σ' := (mkS σ [(131, (σ.1 131)), (130, (σ.1 130)), (129, (1 : Int32))] [] [(3, (σ.2.2.1 3))] [])) (C := RX5) (T := TX5) (N := 4) hx hb hts mc_X5 tyX5 tyX5_ok nmX5 hown hK hG (ga_2 g _) rfl 1 (by decide) hw0 rfl rfl (isb_n (by decide)) (isb_f (by decide)) (Nat.le_of_ble_eq_true rfl) ((gf_129 g _ _).trans (congrArg (g_cells g) (mk_a 2 rfl rfl))) dX5_lay_2 (fun H locs hG => ?_)
  refine lv_aload_n hx hb dX5_lay_5 rfl (lv_at hl 0 rfl) ?_
  refine lv_iload_n hx hb dX5_lay_6 rfl (lv_at hl 1 rfl) ?_
  refine gx_put (σ' := (mkS σ [(131, (σ.1 131)), (130, x1), (129, (1 : Int32))] [] [(3, (σ.2.2.1 3))] [])) (C := RX5) (T := TX5) (N := 4) hx hb hts mc_X5 tyX5 tyX5_ok nmX5 hown hK hG (ga_2 g _) rfl 2 (by decide) hw1 rfl rfl rfl rfl (Nat.le_of_ble_eq_true rfl) ((gf_130 g _ _).trans (congrArg (g_cells g) (mk_a 1 rfl rfl))) dX5_lay_7 (fun H locs hG => ?_)
  refine lv_aload_n hx hb dX5_lay_10 rfl (lv_at hl 0 rfl) ?_
  refine lv_iload_n hx hb dX5_lay_11 rfl (lv_at hl 2 rfl) ?_
  refine gx_put (σ' := (mkS σ [(131, x2), (130, x1), (129, (1 : Int32))] [] [(3, (σ.2.2.1 3))] [])) (C := RX5) (T := TX5) (N := 4) hx hb hts mc_X5 tyX5 tyX5_ok nmX5 hown hK hG (ga_2 g _) rfl 3 (by decide) hw2 rfl rfl rfl rfl (Nat.le_of_ble_eq_true rfl) ((gf_131 g _ _).trans (congrArg (g_cells g) (mk_a 0 rfl rfl))) dX5_lay_12 (fun H locs hG => ?_)
  refine lv_aload_n hx hb dX5_lay_15 rfl (lv_at hl 0 rfl) ?_
  refine gx_get (v := .ref (g.2.1 3)) (C := RX5) (T := TX5) (N := 4) hx hb hts mc_X5 hown hK hG (ga_2 g _) rfl 0 (by decide) hw3 rfl rfl dX5_lay_16 ?_
  refine lv_iconst (v := (0 : Int32)) hx hb dX5_lay_19 (by decide) ?_
  obtain ⟨z1, hc2, h⟩ := bnd_some h
  refine gx_cS (σ' := (mkS σ [(131, x2), (130, x1), (129, (1 : Int32))] [] [(3, z1)] [])) (r := none) (rest := []) (As := [.ref (g.2.1 3), .int (0 : Int32)]) hS9 (c_JA_fillI_3 l g (mkS σ [(131, x2), (130, x1), (129, (1 : Int32))] [] [(3, (σ.2.2.1 3))] []) (0 : Int32) z1 hc2) (mk_mk rfl rfl rfl rfl) (va_cwS 2 hts (gz_S mw_2_88 mw_1_155 mw_1_8 mw_1_156) rfl rfl rfl hdS_J7_fill_53178 ⟨Nat.le_of_ble_eq_true rfl, Nat.le_of_ble_eq_true rfl⟩) hK hG rfl hl.1 rfl (Nat.le_of_ble_eq_true rfl) dX5_lay_20 (fun H locs hG => ?_)
  refine W.eq (g2 := F0 m 23 ls []) rfl ?_
  cases h
  exact gx_vret hx hb hr hlocks hG dX5_lay_23

set_option maxHeartbeats 4000000 in
set_option maxRecDepth 100000 in
theorem c_LN_sheet_s0 (l : Launch) (g : GC) (σ : St) (x2 : Int32) (x3 : Int32) (r : Int32) (w_sheets0_size : Int32) (w_sheets0_sort : Int32) (w_sheets0_there : Int32) (w_sheets0_cells : Nat → Int32) (h : LN_sheet_s0 x2 x3 (σ.1 131) (σ.1 130) (σ.1 129) (σ.2.2.1 3) = some (r, w_sheets0_size, w_sheets0_sort, w_sheets0_there, w_sheets0_cells)) : Cn l g yX8_sheet (Cond.code yX8_sheet cX8_sheet 4 (some .int) :: wG) 2 45 [.ref (g.2.1 0), .int (0 : Int32), .int x2, .int x3] σ (some (.int r)) (mkS σ [(131, w_sheets0_size), (130, w_sheets0_sort), (129, w_sheets0_there)] [] [(3, w_sheets0_cells)] []) := by
  unfold Cn
  refine Met.ofW (cc := cX8_sheet) (maxL := 4) (ret := (some .int)) (by decide) rfl ?_
  intro p e s m args below meth c s₁ B hml hv
  obtain ⟨hargs, hP0, hK⟩ := hv
  have hx := B.exec
  have hb := B.bytes
  have hr := B.returns
  have hts : ∀ w ∈ wG, w.before args s = true := fun w h => atoms_spec (ws := (Cond.code yX8_sheet cX8_sheet 4 (some .int) :: wG)) B.pre w (List.mem_cons_of_mem _ h)
  have hown : s.vm.findClass RX8 = some m.cls := findClass_of_methodNamed B.named
  have hlocks := B.notSynchronized
  have hS9 : CallFix p m c cX8_sheet 4 s args wG RX8 := ⟨hx, hb, hml, hown, hts⟩
  have hw0 := hts _ mw_2_37
  have hf9 : entryFrame m args 4 = _ := (congrArg (fun a => entryFrame m a 4) hargs).trans (lg_entry_eq m [.ref (g.2.1 0), .int (0 : Int32), .int x2, .int x3] 4)
  show Wg p l e 2 45 s m args below meth c g (some (.int r)) (mkS σ [(131, w_sheets0_size), (130, w_sheets0_sort), (129, w_sheets0_there)] [] [(3, w_sheets0_cells)] []) s.heap [] (entryFrame m args 4)
  rw [hf9]
  have hl := lv_entry ([.ref (g.2.1 0), .int (0 : Int32), .int x2, .int x3]) (n := 4) (Nat.le_of_ble_eq_true rfl)
  generalize (lg_sl ([.ref (g.2.1 0), .int (0 : Int32), .int x2, .int x3]) ++ List.replicate (4 - (lg_sl ([.ref (g.2.1 0), .int (0 : Int32), .int x2, .int x3])).length) Slot.unset).toArray = ls at hl ⊢
  have hl : lv_has ls 4 [(0, .ref (g.2.1 0)), (1, .int (0 : Int32)), (2, .int x2), (3, .int x3)] := hl
  have hG : GW g s σ s.heap [] := ⟨hP0, va_S.rf⟩
  have hG : GW g s (mkS σ [(131, (σ.1 131)), (130, (σ.1 130)), (129, (σ.1 129))] [] [(3, (σ.2.2.1 3))] []) s.heap [] := GW_self [131, 130, 129] [] [3] [] hG
  unfold LN_sheet_s0 at h
  have n16 : ∀ (v_sheets0_size : Int32) (v_sheets0_sort : Int32) (v_sheets0_there : Int32) (v_sheets0_cells : Nat → Int32) (H : Heap) (locs : List Loc) (ls : Array Slot), lv_has ls 4 [] → GW g s (mkS σ [(131, v_sheets0_size), (130, v_sheets0_sort), (129, v_sheets0_there)] [] [(3, v_sheets0_cells)] []) H locs → LN_sheet_s0_n16 v_sheets0_size v_sheets0_sort v_sheets0_there v_sheets0_cells = some (r, w_sheets0_size, w_sheets0_sort, w_sheets0_there, w_sheets0_cells) → Wg p l e 2 45 s m args below meth c g (some (.int r)) (mkS σ [(131, w_sheets0_size), (130, w_sheets0_sort), (129, w_sheets0_there)] [] [(3, w_sheets0_cells)] []) H locs (F0 m 16 ls []) := by
    intro v_sheets0_size v_sheets0_sort v_sheets0_there v_sheets0_cells H locs ls hl hG h
    unfold LN_sheet_s0_n16 at h
    refine lv_iconst (v := (-1 : Int32)) hx hb dX8_sheet_16 (by decide) ?_
    cases h
    exact gx_iret hx hb hr hlocks hG dX8_sheet_17
  refine lv_iload_n hx hb dX8_sheet_0 rfl (lv_at hl 1 rfl) ?_
  obtain ⟨z1, hc2, h⟩ := bnd_some h
  refine gx_cS (σ' := (mkS σ [(131, (σ.1 131)), (130, (σ.1 130)), (129, (σ.1 129))] [] [(3, (σ.2.2.1 3))] [])) (r := (some (.int z1))) (rest := []) (As := [.int (0 : Int32)]) hS9 (c_LN_isSheet l g (mkS σ [(131, (σ.1 131)), (130, (σ.1 130)), (129, (σ.1 129))] [] [(3, (σ.2.2.1 3))] []) (0 : Int32) z1 hc2) rfl (va_cwS 1 hts (gz_S mw_2_81 mw_2_82 mw_1_1 mw_2_83) rfl rfl rfl hdS_X8_isSheet ⟨Nat.le_of_ble_eq_true rfl, Nat.le_of_ble_eq_true rfl⟩) hK hG rfl hl.1 rfl (Nat.le_of_ble_eq_true rfl) dX8_sheet_1 (fun H locs hG => ?_)
  refine W.eq (g2 := F0 m 4 ls [.int z1]) rfl ?_
  refine lv_if_eq (tgt := 16) hx hb dX8_sheet_4 (by decide) (fun c3 => ?_) (fun c3 => ?_)
  · have h := ite_t c3 h
    exact n16 (σ.1 131) (σ.1 130) (σ.1 129) (σ.2.2.1 3) _ _ _ (lv_sub hl [] rfl) hG h
  · have h := ite_f c3 h
    refine lv_iload_n hx hb dX8_sheet_7 rfl (lv_at hl 2 rfl) ?_
    refine lv_if_lt (tgt := 16) hx hb dX8_sheet_8 (by decide) (fun c4 => ?_) (fun c4 => ?_)
    · have h := ite_t c4 h
      exact n16 (σ.1 131) (σ.1 130) (σ.1 129) (σ.2.2.1 3) _ _ _ (lv_sub hl [] rfl) hG h
    · have h := ite_f c4 h
      refine lv_iload_n hx hb dX8_sheet_11 rfl (lv_at hl 2 rfl) ?_
      refine lv_iconst (v := (2 : Int32)) hx hb dX8_sheet_12 (by decide) ?_
      refine lv_icmp_le (tgt := 18) hx hb dX8_sheet_13 (by decide) (fun c5 => ?_) (fun c5 => ?_)
      · have h := ite_t c5 h
        refine lv_iload_n hx hb dX8_sheet_18 rfl (lv_at hl 3 rfl) ?_
        refine lv_if_ge (tgt := 25) hx hb dX8_sheet_19 (by decide) (fun c6 => ?_) (fun c6 => ?_)
        · have h := ite_t c6 h
          refine lv_iload_n hx hb dX8_sheet_25 rfl (lv_at hl 3 rfl) ?_
          refine lv_bipush (v := (60 : Int32)) hx hb dX8_sheet_26 (by decide) ?_
          refine lv_icmp_le (tgt := 33) hx hb dX8_sheet_28 (by decide) (fun c7 => ?_) (fun c7 => ?_)
          · have h := ite_t c7 h
            refine lv_aload_n hx hb dX8_sheet_33 rfl (lv_at hl 0 rfl) ?_
            refine gx_get (v := .ref (g.2.1 1)) (C := RX8) (T := TX8) (N := 13) hx hb hts mc_X8 hown hK hG (ga_0 g _) rfl 0 (by decide) hw0 rfl rfl dX8_sheet_34 ?_
            refine lv_iload_n hx hb dX8_sheet_37 rfl (lv_at hl 1 rfl) ?_
            refine gx_aald (v := .ref (g.2.1 2)) hx hb hK hG (ga_1 g _) (by decide) rfl dX8_sheet_38 ?_
            refine lv_iload_n hx hb dX8_sheet_39 rfl (lv_at hl 2 rfl) ?_
            refine lv_iload_n hx hb dX8_sheet_40 rfl (lv_at hl 3 rfl) ?_
            obtain ⟨z8, hc9, h⟩ := bnd_some h
            refine gx_cV (σ' := (mkS σ [(131, z8.1), (130, z8.2.1), (129, z8.2.2.1)] [] [(3, z8.2.2.2)] [])) (r := none) (rest := []) (As := [.int x2, .int x3]) hS9 (c_Sh_lay_2 l g (mkS σ [(131, (σ.1 131)), (130, (σ.1 130)), (129, (σ.1 129))] [] [(3, (σ.2.2.1 3))] []) x2 x3 z8.1 z8.2.1 z8.2.2.1 z8.2.2.2 hc9) (mk_mk rfl rfl rfl rfl) (cwV 2 hts (gz_V mw_2_84 mw_2_85 mw_2_86 mw_1_2 mw_2_87) rfl rfl rfl hdV_X5_lay ⟨Nat.le_of_ble_eq_true rfl, Nat.le_of_ble_eq_true rfl⟩) hK hG (ga_2 g _) rfl rfl rfl hl.1 rfl (Nat.le_of_ble_eq_true rfl) dX8_sheet_41 (fun H locs hG => ?_)
            refine W.eq (g2 := F0 m 44 ls []) rfl ?_
            refine lv_iconst (v := (1 : Int32)) hx hb dX8_sheet_44 (by decide) ?_
            cases h
            exact gx_iret hx hb hr hlocks hG dX8_sheet_45
          · have h := ite_f c7 h
            refine lv_iconst (v := (-1 : Int32)) hx hb dX8_sheet_31 (by decide) ?_
            cases h
            exact gx_iret hx hb hr hlocks hG dX8_sheet_32
        · have h := ite_f c6 h
          refine lv_bipush (v := (-4 : Int32)) hx hb dX8_sheet_22 (by decide) ?_
          cases h
          exact gx_iret hx hb hr hlocks hG dX8_sheet_24
      · have h := ite_f c5 h
        exact n16 (σ.1 131) (σ.1 130) (σ.1 129) (σ.2.2.1 3) _ _ _ (lv_sub hl [] rfl) hG h

set_option maxHeartbeats 4000000 in
set_option maxRecDepth 100000 in
theorem c_JA_fillI_5 (l : Launch) (g : GC) (σ : St) (x1 : Int32) (w_r0 : Nat → Int32) (h : JA_fillI x1 60 (σ.2.2.1 5) = some w_r0) : Cn l g yJ7_fill_53178 (Cond.code yJ7_fill_53178 cJ7_fill_53178 4 none :: wG) 0 0 [.ref (g.2.1 5), .int x1] σ none (mkS σ [] [] [(5, w_r0)] []) := by
  unfold Cn
  refine Met.ofW (cc := cJ7_fill_53178) (maxL := 4) (ret := none) (by decide) rfl ?_
  intro p e s m args below meth c s₁ B hml hv
  obtain ⟨hargs, hP0, hK⟩ := hv
  have hx := B.exec
  have hb := B.bytes
  have hr := B.returns
  have hts : ∀ w ∈ wG, w.before args s = true := fun w h => atoms_spec (ws := (Cond.code yJ7_fill_53178 cJ7_fill_53178 4 none :: wG)) B.pre w (List.mem_cons_of_mem _ h)
  have hown : s.vm.findClass RJ7 = some m.cls := findClass_of_methodNamed B.named
  have hlocks := B.notSynchronized
  have hf9 : entryFrame m args 4 = _ := (congrArg (fun a => entryFrame m a 4) hargs).trans (lg_entry_eq m [.ref (g.2.1 5), .int x1] 4)
  show Wg p l e 0 0 s m args below meth c g none (mkS σ [] [] [(5, w_r0)] []) s.heap [] (entryFrame m args 4)
  rw [hf9]
  have hl := lv_entry ([.ref (g.2.1 5), .int x1]) (n := 4) (Nat.le_of_ble_eq_true rfl)
  generalize (lg_sl ([.ref (g.2.1 5), .int x1]) ++ List.replicate (4 - (lg_sl ([.ref (g.2.1 5), .int x1])).length) Slot.unset).toArray = ls at hl ⊢
  have hl : lv_has ls 4 [(0, .ref (g.2.1 5)), (1, .int x1)] := hl
  have hG : GW g s σ s.heap [] := ⟨hP0, va_S.rf⟩
  have hG : GW g s (mkS σ [] [] [(5, (σ.2.2.1 5))] []) s.heap [] := GW_self [] [] [5] [] hG
  unfold JA_fillI at h
  have n20 : ∀ (v_r0 : Nat → Int32) (H : Heap) (locs : List Loc) (ls : Array Slot), lv_has ls 4 [] → GW g s (mkS σ [] [] [(5, v_r0)] []) H locs → JA_fillI_n20 60 v_r0 = some w_r0 → Wg p l e 0 0 s m args below meth c g none (mkS σ [] [] [(5, w_r0)] []) H locs (F0 m 20 ls []) := by
    intro v_r0 H locs ls hl hG h
    unfold JA_fillI_n20 at h
    cases h
    exact gx_vret hx hb hr hlocks hG dJ7_fill_53178_20
  have n5 : ∀ (k5 : Int32 → Int32 → Int32 → (Nat → Int32) → Option ((Nat → Int32))) (hk5 : ∀ (x1 : Int32) (x2 : Int32) (x3 : Int32) (v_r0 : Nat → Int32) (H : Heap) (locs : List Loc) (ls : Array Slot), lv_has ls 4 [(0, .ref (g.2.1 5)), (1, .int x1), (2, .int x2), (3, .int x3)] → GW g s (mkS σ [] [] [(5, v_r0)] []) H locs → k5 x1 x2 x3 v_r0 = some w_r0 → Wg p l e 0 0 s m args below meth c g none (mkS σ [] [] [(5, w_r0)] []) H locs (F0 m 5 ls [])) (x1 : Int32) (x2 : Int32) (x3 : Int32) (v_r0 : Nat → Int32) (H : Heap) (locs : List Loc) (ls : Array Slot), lv_has ls 4 [(0, .ref (g.2.1 5)), (1, .int x1), (2, .int x2), (3, .int x3)] → GW g s (mkS σ [] [] [(5, v_r0)] []) H locs → JA_fillI_n5 k5 60 x1 x2 x3 v_r0 = some w_r0 → Wg p l e 0 0 s m args below meth c g none (mkS σ [] [] [(5, w_r0)] []) H locs (F0 m 5 ls []) := by
    intro k5 hk5 x1 x2 x3 v_r0 H locs ls hl hG h
    unfold JA_fillI_n5 at h
    refine lv_iload_n hx hb dJ7_fill_53178_5 rfl (lv_at hl 2 rfl) ?_
    refine lv_iload_n hx hb dJ7_fill_53178_6 rfl (lv_at hl 3 rfl) ?_
    refine lv_icmp_ge (tgt := 20) hx hb dJ7_fill_53178_7 (by decide) (fun c1 => ?_) (fun c1 => ?_)
    · have h := ite_t c1 h
      exact n20 v_r0 _ _ _ (lv_sub hl [] rfl) hG h
    · have h := ite_f c1 h
      refine lv_aload_n hx hb dJ7_fill_53178_10 rfl (lv_at hl 0 rfl) ?_
      refine lv_iload_n hx hb dJ7_fill_53178_11 rfl (lv_at hl 2 rfl) ?_
      refine lv_iload_n hx hb dJ7_fill_53178_12 rfl (lv_at hl 1 rfl) ?_
      obtain ⟨hg2, h⟩ := gd_some h
      refine gx_iast (σ' := (mkS σ [] [] [(5, (upd v_r0 (x2.toNatClampNeg) x1))] [])) (f := v_r0) hx hb hK hG (ga_5 g _) hg2 ((gs_5 g _ _).trans (congrArg (g_cells g) (mk_c 0 rfl rfl))) dJ7_fill_53178_13 (fun H locs hG => ?_)
      refine lv_iinc (v := (x2 + (1 : Int32))) (lv' := [(2, .int (x2 + (1 : Int32))), (0, .ref (g.2.1 5)), (1, .int x1), (3, .int x3)]) hx hb dJ7_fill_53178_14 hl (k := 2) rfl (congrArg (fun z => x2 + z) (by decide)) (Nat.le_of_ble_eq_true rfl) rfl (fun ls hl => ?_)
      refine lv_goto (tgt := 5) hx hb dJ7_fill_53178_17 (by decide) ?_
      exact hk5 x1 (x2 + (1 : Int32)) x3 (upd v_r0 (x2.toNatClampNeg) x1) _ _ _ (lv_sub hl [1, 2, 0, 3] rfl) hG h
  have l5 : ∀  (F : Nat) (x1 : Int32) (x2 : Int32) (x3 : Int32) (v_r0 : Nat → Int32) (H : Heap) (locs : List Loc) (ls : Array Slot), lv_has ls 4 [(0, .ref (g.2.1 5)), (1, .int x1), (2, .int x2), (3, .int x3)] → GW g s (mkS σ [] [] [(5, v_r0)] []) H locs → JA_fillI_l5 60 F x1 x2 x3 v_r0 = some w_r0 → Wg p l e 0 0 s m args below meth c g none (mkS σ [] [] [(5, w_r0)] []) H locs (F0 m 5 ls []) := by
    intro F
    induction F with
    | zero => intro x1 x2 x3 v_r0 H locs ls hl hG h; exact no_some h
    | succ F ih => intro x1 x2 x3 v_r0 H locs ls hl hG h; exact n5 (fun x1 x2 x3 v_r0 => JA_fillI_l5 60 F x1 x2 x3 v_r0) ih x1 x2 x3 v_r0 H locs ls hl hG h
  refine lv_iconst (v := (0 : Int32)) hx hb dJ7_fill_53178_0 (by decide) ?_
  refine lv_istore_n (lv' := [(2, .int (0 : Int32)), (0, .ref (g.2.1 5)), (1, .int x1)]) hx hb dJ7_fill_53178_1 rfl hl (Nat.le_of_ble_eq_true rfl) rfl (fun ls hl => ?_)
  refine lv_aload_n hx hb dJ7_fill_53178_2 rfl (lv_at hl 1 rfl) ?_
  refine gx_alen (v := (Int32.ofNat 60)) hx hb hK hG 0 (ga_5 g _) rfl rfl dJ7_fill_53178_3 ?_
  refine lv_istore_n (lv' := [(3, .int (Int32.ofNat 60)), (2, .int (0 : Int32)), (0, .ref (g.2.1 5)), (1, .int x1)]) hx hb dJ7_fill_53178_4 rfl hl (Nat.le_of_ble_eq_true rfl) rfl (fun ls hl => ?_)
  exact l5 FUEL x1 (0 : Int32) (Int32.ofNat 60) (σ.2.2.1 5) _ _ _ (lv_sub hl [2, 3, 1, 0] rfl) hG h

set_option maxHeartbeats 4000000 in
set_option maxRecDepth 100000 in
theorem c_Sh_lay_4 (l : Launch) (g : GC) (σ : St) (x1 : Int32) (x2 : Int32) (w_size : Int32) (w_sort : Int32) (w_there : Int32) (w_cells : Nat → Int32) (h : Sh_lay x1 x2 (σ.1 259) (σ.1 258) (σ.1 257) (σ.2.2.1 5) = some (w_size, w_sort, w_there, w_cells)) : Cn l g yX5_lay (Cond.code yX5_lay cX5_lay 3 none :: wG) 1 23 [.ref (g.2.1 4), .int x1, .int x2] σ none (mkS σ [(259, w_size), (258, w_sort), (257, w_there)] [] [(5, w_cells)] []) := by
  unfold Cn
  refine Met.ofW (cc := cX5_lay) (maxL := 3) (ret := none) (by decide) rfl ?_
  intro p e s m args below meth c s₁ B hml hv
  obtain ⟨hargs, hP0, hK⟩ := hv
  have hx := B.exec
  have hb := B.bytes
  have hr := B.returns
  have hts : ∀ w ∈ wG, w.before args s = true := fun w h => atoms_spec (ws := (Cond.code yX5_lay cX5_lay 3 none :: wG)) B.pre w (List.mem_cons_of_mem _ h)
  have hown : s.vm.findClass RX5 = some m.cls := findClass_of_methodNamed B.named
  have hlocks := B.notSynchronized
  have hS9 : CallFix p m c cX5_lay 3 s args wG RX5 := ⟨hx, hb, hml, hown, hts⟩
  have hw0 := hts _ mw_1_32
  have hw1 := hts _ mw_1_34
  have hw2 := hts _ mw_1_35
  have hw3 := hts _ mw_1_31
  have hf9 : entryFrame m args 3 = _ := (congrArg (fun a => entryFrame m a 3) hargs).trans (lg_entry_eq m [.ref (g.2.1 4), .int x1, .int x2] 3)
  show Wg p l e 1 23 s m args below meth c g none (mkS σ [(259, w_size), (258, w_sort), (257, w_there)] [] [(5, w_cells)] []) s.heap [] (entryFrame m args 3)
  rw [hf9]
  have hl := lv_entry ([.ref (g.2.1 4), .int x1, .int x2]) (n := 3) (Nat.le_of_ble_eq_true rfl)
  generalize (lg_sl ([.ref (g.2.1 4), .int x1, .int x2]) ++ List.replicate (3 - (lg_sl ([.ref (g.2.1 4), .int x1, .int x2])).length) Slot.unset).toArray = ls at hl ⊢
  have hl : lv_has ls 3 [(0, .ref (g.2.1 4)), (1, .int x1), (2, .int x2)] := hl
  have hG : GW g s σ s.heap [] := ⟨hP0, va_S.rf⟩
  have hG : GW g s (mkS σ [(259, (σ.1 259)), (258, (σ.1 258)), (257, (σ.1 257))] [] [(5, (σ.2.2.1 5))] []) s.heap [] := GW_self [259, 258, 257] [] [5] [] hG
  unfold Sh_lay at h
  refine lv_aload_n hx hb dX5_lay_0 rfl (lv_at hl 0 rfl) ?_
  refine lv_iconst (v := (1 : Int32)) hx hb dX5_lay_1 (by decide) ?_
  refine gx_put (σ' := (mkS σ [(259, (σ.1 259)), (258, (σ.1 258)), (257, (1 : Int32))] [] [(5, (σ.2.2.1 5))] [])) (C := RX5) (T := TX5) (N := 4) hx hb hts mc_X5 tyX5 tyX5_ok nmX5 hown hK hG (ga_4 g _) rfl 1 (by decide) hw0 rfl rfl (isb_n (by decide)) (isb_f (by decide)) (Nat.le_of_ble_eq_true rfl) ((gf_257 g _ _).trans (congrArg (g_cells g) (mk_a 2 rfl rfl))) dX5_lay_2 (fun H locs hG => ?_)
  refine lv_aload_n hx hb dX5_lay_5 rfl (lv_at hl 0 rfl) ?_
  refine lv_iload_n hx hb dX5_lay_6 rfl (lv_at hl 1 rfl) ?_
  refine gx_put (σ' := (mkS σ [(259, (σ.1 259)), (258, x1), (257, (1 : Int32))] [] [(5, (σ.2.2.1 5))] [])) (C := RX5) (T := TX5) (N := 4) hx hb hts mc_X5 tyX5 tyX5_ok nmX5 hown hK hG (ga_4 g _) rfl 2 (by decide) hw1 rfl rfl rfl rfl (Nat.le_of_ble_eq_true rfl) ((gf_258 g _ _).trans (congrArg (g_cells g) (mk_a 1 rfl rfl))) dX5_lay_7 (fun H locs hG => ?_)
  refine lv_aload_n hx hb dX5_lay_10 rfl (lv_at hl 0 rfl) ?_
  refine lv_iload_n hx hb dX5_lay_11 rfl (lv_at hl 2 rfl) ?_
  refine gx_put (σ' := (mkS σ [(259, x2), (258, x1), (257, (1 : Int32))] [] [(5, (σ.2.2.1 5))] [])) (C := RX5) (T := TX5) (N := 4) hx hb hts mc_X5 tyX5 tyX5_ok nmX5 hown hK hG (ga_4 g _) rfl 3 (by decide) hw2 rfl rfl rfl rfl (Nat.le_of_ble_eq_true rfl) ((gf_259 g _ _).trans (congrArg (g_cells g) (mk_a 0 rfl rfl))) dX5_lay_12 (fun H locs hG => ?_)
  refine lv_aload_n hx hb dX5_lay_15 rfl (lv_at hl 0 rfl) ?_
  refine gx_get (v := .ref (g.2.1 5)) (C := RX5) (T := TX5) (N := 4) hx hb hts mc_X5 hown hK hG (ga_4 g _) rfl 0 (by decide) hw3 rfl rfl dX5_lay_16 ?_
  refine lv_iconst (v := (0 : Int32)) hx hb dX5_lay_19 (by decide) ?_
  obtain ⟨z1, hc2, h⟩ := bnd_some h
  refine gx_cS (σ' := (mkS σ [(259, x2), (258, x1), (257, (1 : Int32))] [] [(5, z1)] [])) (r := none) (rest := []) (As := [.ref (g.2.1 5), .int (0 : Int32)]) hS9 (c_JA_fillI_5 l g (mkS σ [(259, x2), (258, x1), (257, (1 : Int32))] [] [(5, (σ.2.2.1 5))] []) (0 : Int32) z1 hc2) (mk_mk rfl rfl rfl rfl) (va_cwS 2 hts (gz_S mw_2_88 mw_1_155 mw_1_8 mw_1_156) rfl rfl rfl hdS_J7_fill_53178 ⟨Nat.le_of_ble_eq_true rfl, Nat.le_of_ble_eq_true rfl⟩) hK hG rfl hl.1 rfl (Nat.le_of_ble_eq_true rfl) dX5_lay_20 (fun H locs hG => ?_)
  refine W.eq (g2 := F0 m 23 ls []) rfl ?_
  cases h
  exact gx_vret hx hb hr hlocks hG dX5_lay_23

set_option maxHeartbeats 4000000 in
set_option maxRecDepth 100000 in
theorem c_LN_sheet_s1 (l : Launch) (g : GC) (σ : St) (x2 : Int32) (x3 : Int32) (r : Int32) (w_sheets1_size : Int32) (w_sheets1_sort : Int32) (w_sheets1_there : Int32) (w_sheets1_cells : Nat → Int32) (h : LN_sheet_s1 x2 x3 (σ.1 259) (σ.1 258) (σ.1 257) (σ.2.2.1 5) = some (r, w_sheets1_size, w_sheets1_sort, w_sheets1_there, w_sheets1_cells)) : Cn l g yX8_sheet (Cond.code yX8_sheet cX8_sheet 4 (some .int) :: wG) 2 45 [.ref (g.2.1 0), .int (1 : Int32), .int x2, .int x3] σ (some (.int r)) (mkS σ [(259, w_sheets1_size), (258, w_sheets1_sort), (257, w_sheets1_there)] [] [(5, w_sheets1_cells)] []) := by
  unfold Cn
  refine Met.ofW (cc := cX8_sheet) (maxL := 4) (ret := (some .int)) (by decide) rfl ?_
  intro p e s m args below meth c s₁ B hml hv
  obtain ⟨hargs, hP0, hK⟩ := hv
  have hx := B.exec
  have hb := B.bytes
  have hr := B.returns
  have hts : ∀ w ∈ wG, w.before args s = true := fun w h => atoms_spec (ws := (Cond.code yX8_sheet cX8_sheet 4 (some .int) :: wG)) B.pre w (List.mem_cons_of_mem _ h)
  have hown : s.vm.findClass RX8 = some m.cls := findClass_of_methodNamed B.named
  have hlocks := B.notSynchronized
  have hS9 : CallFix p m c cX8_sheet 4 s args wG RX8 := ⟨hx, hb, hml, hown, hts⟩
  have hw0 := hts _ mw_2_37
  have hf9 : entryFrame m args 4 = _ := (congrArg (fun a => entryFrame m a 4) hargs).trans (lg_entry_eq m [.ref (g.2.1 0), .int (1 : Int32), .int x2, .int x3] 4)
  show Wg p l e 2 45 s m args below meth c g (some (.int r)) (mkS σ [(259, w_sheets1_size), (258, w_sheets1_sort), (257, w_sheets1_there)] [] [(5, w_sheets1_cells)] []) s.heap [] (entryFrame m args 4)
  rw [hf9]
  have hl := lv_entry ([.ref (g.2.1 0), .int (1 : Int32), .int x2, .int x3]) (n := 4) (Nat.le_of_ble_eq_true rfl)
  generalize (lg_sl ([.ref (g.2.1 0), .int (1 : Int32), .int x2, .int x3]) ++ List.replicate (4 - (lg_sl ([.ref (g.2.1 0), .int (1 : Int32), .int x2, .int x3])).length) Slot.unset).toArray = ls at hl ⊢
  have hl : lv_has ls 4 [(0, .ref (g.2.1 0)), (1, .int (1 : Int32)), (2, .int x2), (3, .int x3)] := hl
  have hG : GW g s σ s.heap [] := ⟨hP0, va_S.rf⟩
  have hG : GW g s (mkS σ [(259, (σ.1 259)), (258, (σ.1 258)), (257, (σ.1 257))] [] [(5, (σ.2.2.1 5))] []) s.heap [] := GW_self [259, 258, 257] [] [5] [] hG
  unfold LN_sheet_s1 at h
  have n16 : ∀ (v_sheets1_size : Int32) (v_sheets1_sort : Int32) (v_sheets1_there : Int32) (v_sheets1_cells : Nat → Int32) (H : Heap) (locs : List Loc) (ls : Array Slot), lv_has ls 4 [] → GW g s (mkS σ [(259, v_sheets1_size), (258, v_sheets1_sort), (257, v_sheets1_there)] [] [(5, v_sheets1_cells)] []) H locs → LN_sheet_s1_n16 v_sheets1_size v_sheets1_sort v_sheets1_there v_sheets1_cells = some (r, w_sheets1_size, w_sheets1_sort, w_sheets1_there, w_sheets1_cells) → Wg p l e 2 45 s m args below meth c g (some (.int r)) (mkS σ [(259, w_sheets1_size), (258, w_sheets1_sort), (257, w_sheets1_there)] [] [(5, w_sheets1_cells)] []) H locs (F0 m 16 ls []) := by
    intro v_sheets1_size v_sheets1_sort v_sheets1_there v_sheets1_cells H locs ls hl hG h
    unfold LN_sheet_s1_n16 at h
    refine lv_iconst (v := (-1 : Int32)) hx hb dX8_sheet_16 (by decide) ?_
    cases h
    exact gx_iret hx hb hr hlocks hG dX8_sheet_17
  refine lv_iload_n hx hb dX8_sheet_0 rfl (lv_at hl 1 rfl) ?_
  obtain ⟨z1, hc2, h⟩ := bnd_some h
  refine gx_cS (σ' := (mkS σ [(259, (σ.1 259)), (258, (σ.1 258)), (257, (σ.1 257))] [] [(5, (σ.2.2.1 5))] [])) (r := (some (.int z1))) (rest := []) (As := [.int (1 : Int32)]) hS9 (c_LN_isSheet l g (mkS σ [(259, (σ.1 259)), (258, (σ.1 258)), (257, (σ.1 257))] [] [(5, (σ.2.2.1 5))] []) (1 : Int32) z1 hc2) rfl (va_cwS 1 hts (gz_S mw_2_81 mw_2_82 mw_1_1 mw_2_83) rfl rfl rfl hdS_X8_isSheet ⟨Nat.le_of_ble_eq_true rfl, Nat.le_of_ble_eq_true rfl⟩) hK hG rfl hl.1 rfl (Nat.le_of_ble_eq_true rfl) dX8_sheet_1 (fun H locs hG => ?_)
  refine W.eq (g2 := F0 m 4 ls [.int z1]) rfl ?_
  refine lv_if_eq (tgt := 16) hx hb dX8_sheet_4 (by decide) (fun c3 => ?_) (fun c3 => ?_)
  · have h := ite_t c3 h
    exact n16 (σ.1 259) (σ.1 258) (σ.1 257) (σ.2.2.1 5) _ _ _ (lv_sub hl [] rfl) hG h
  · have h := ite_f c3 h
    refine lv_iload_n hx hb dX8_sheet_7 rfl (lv_at hl 2 rfl) ?_
    refine lv_if_lt (tgt := 16) hx hb dX8_sheet_8 (by decide) (fun c4 => ?_) (fun c4 => ?_)
    · have h := ite_t c4 h
      exact n16 (σ.1 259) (σ.1 258) (σ.1 257) (σ.2.2.1 5) _ _ _ (lv_sub hl [] rfl) hG h
    · have h := ite_f c4 h
      refine lv_iload_n hx hb dX8_sheet_11 rfl (lv_at hl 2 rfl) ?_
      refine lv_iconst (v := (2 : Int32)) hx hb dX8_sheet_12 (by decide) ?_
      refine lv_icmp_le (tgt := 18) hx hb dX8_sheet_13 (by decide) (fun c5 => ?_) (fun c5 => ?_)
      · have h := ite_t c5 h
        refine lv_iload_n hx hb dX8_sheet_18 rfl (lv_at hl 3 rfl) ?_
        refine lv_if_ge (tgt := 25) hx hb dX8_sheet_19 (by decide) (fun c6 => ?_) (fun c6 => ?_)
        · have h := ite_t c6 h
          refine lv_iload_n hx hb dX8_sheet_25 rfl (lv_at hl 3 rfl) ?_
          refine lv_bipush (v := (60 : Int32)) hx hb dX8_sheet_26 (by decide) ?_
          refine lv_icmp_le (tgt := 33) hx hb dX8_sheet_28 (by decide) (fun c7 => ?_) (fun c7 => ?_)
          · have h := ite_t c7 h
            refine lv_aload_n hx hb dX8_sheet_33 rfl (lv_at hl 0 rfl) ?_
            refine gx_get (v := .ref (g.2.1 1)) (C := RX8) (T := TX8) (N := 13) hx hb hts mc_X8 hown hK hG (ga_0 g _) rfl 0 (by decide) hw0 rfl rfl dX8_sheet_34 ?_
            refine lv_iload_n hx hb dX8_sheet_37 rfl (lv_at hl 1 rfl) ?_
            refine gx_aald (v := .ref (g.2.1 4)) hx hb hK hG (ga_1 g _) (by decide) rfl dX8_sheet_38 ?_
            refine lv_iload_n hx hb dX8_sheet_39 rfl (lv_at hl 2 rfl) ?_
            refine lv_iload_n hx hb dX8_sheet_40 rfl (lv_at hl 3 rfl) ?_
            obtain ⟨z8, hc9, h⟩ := bnd_some h
            refine gx_cV (σ' := (mkS σ [(259, z8.1), (258, z8.2.1), (257, z8.2.2.1)] [] [(5, z8.2.2.2)] [])) (r := none) (rest := []) (As := [.int x2, .int x3]) hS9 (c_Sh_lay_4 l g (mkS σ [(259, (σ.1 259)), (258, (σ.1 258)), (257, (σ.1 257))] [] [(5, (σ.2.2.1 5))] []) x2 x3 z8.1 z8.2.1 z8.2.2.1 z8.2.2.2 hc9) (mk_mk rfl rfl rfl rfl) (cwV 2 hts (gz_V mw_2_84 mw_2_85 mw_2_86 mw_1_2 mw_2_87) rfl rfl rfl hdV_X5_lay ⟨Nat.le_of_ble_eq_true rfl, Nat.le_of_ble_eq_true rfl⟩) hK hG (ga_4 g _) rfl rfl rfl hl.1 rfl (Nat.le_of_ble_eq_true rfl) dX8_sheet_41 (fun H locs hG => ?_)
            refine W.eq (g2 := F0 m 44 ls []) rfl ?_
            refine lv_iconst (v := (1 : Int32)) hx hb dX8_sheet_44 (by decide) ?_
            cases h
            exact gx_iret hx hb hr hlocks hG dX8_sheet_45
          · have h := ite_f c7 h
            refine lv_iconst (v := (-1 : Int32)) hx hb dX8_sheet_31 (by decide) ?_
            cases h
            exact gx_iret hx hb hr hlocks hG dX8_sheet_32
        · have h := ite_f c6 h
          refine lv_bipush (v := (-4 : Int32)) hx hb dX8_sheet_22 (by decide) ?_
          cases h
          exact gx_iret hx hb hr hlocks hG dX8_sheet_24
      · have h := ite_f c5 h
        exact n16 (σ.1 259) (σ.1 258) (σ.1 257) (σ.2.2.1 5) _ _ _ (lv_sub hl [] rfl) hG h

set_option maxHeartbeats 4000000 in
set_option maxRecDepth 100000 in
theorem c_JA_fillI_7 (l : Launch) (g : GC) (σ : St) (x1 : Int32) (w_r0 : Nat → Int32) (h : JA_fillI x1 60 (σ.2.2.1 7) = some w_r0) : Cn l g yJ7_fill_53178 (Cond.code yJ7_fill_53178 cJ7_fill_53178 4 none :: wG) 0 0 [.ref (g.2.1 7), .int x1] σ none (mkS σ [] [] [(7, w_r0)] []) := by
  unfold Cn
  refine Met.ofW (cc := cJ7_fill_53178) (maxL := 4) (ret := none) (by decide) rfl ?_
  intro p e s m args below meth c s₁ B hml hv
  obtain ⟨hargs, hP0, hK⟩ := hv
  have hx := B.exec
  have hb := B.bytes
  have hr := B.returns
  have hts : ∀ w ∈ wG, w.before args s = true := fun w h => atoms_spec (ws := (Cond.code yJ7_fill_53178 cJ7_fill_53178 4 none :: wG)) B.pre w (List.mem_cons_of_mem _ h)
  have hown : s.vm.findClass RJ7 = some m.cls := findClass_of_methodNamed B.named
  have hlocks := B.notSynchronized
  have hf9 : entryFrame m args 4 = _ := (congrArg (fun a => entryFrame m a 4) hargs).trans (lg_entry_eq m [.ref (g.2.1 7), .int x1] 4)
  show Wg p l e 0 0 s m args below meth c g none (mkS σ [] [] [(7, w_r0)] []) s.heap [] (entryFrame m args 4)
  rw [hf9]
  have hl := lv_entry ([.ref (g.2.1 7), .int x1]) (n := 4) (Nat.le_of_ble_eq_true rfl)
  generalize (lg_sl ([.ref (g.2.1 7), .int x1]) ++ List.replicate (4 - (lg_sl ([.ref (g.2.1 7), .int x1])).length) Slot.unset).toArray = ls at hl ⊢
  have hl : lv_has ls 4 [(0, .ref (g.2.1 7)), (1, .int x1)] := hl
  have hG : GW g s σ s.heap [] := ⟨hP0, va_S.rf⟩
  have hG : GW g s (mkS σ [] [] [(7, (σ.2.2.1 7))] []) s.heap [] := GW_self [] [] [7] [] hG
  unfold JA_fillI at h
  have n20 : ∀ (v_r0 : Nat → Int32) (H : Heap) (locs : List Loc) (ls : Array Slot), lv_has ls 4 [] → GW g s (mkS σ [] [] [(7, v_r0)] []) H locs → JA_fillI_n20 60 v_r0 = some w_r0 → Wg p l e 0 0 s m args below meth c g none (mkS σ [] [] [(7, w_r0)] []) H locs (F0 m 20 ls []) := by
    intro v_r0 H locs ls hl hG h
    unfold JA_fillI_n20 at h
    cases h
    exact gx_vret hx hb hr hlocks hG dJ7_fill_53178_20
  have n5 : ∀ (k5 : Int32 → Int32 → Int32 → (Nat → Int32) → Option ((Nat → Int32))) (hk5 : ∀ (x1 : Int32) (x2 : Int32) (x3 : Int32) (v_r0 : Nat → Int32) (H : Heap) (locs : List Loc) (ls : Array Slot), lv_has ls 4 [(0, .ref (g.2.1 7)), (1, .int x1), (2, .int x2), (3, .int x3)] → GW g s (mkS σ [] [] [(7, v_r0)] []) H locs → k5 x1 x2 x3 v_r0 = some w_r0 → Wg p l e 0 0 s m args below meth c g none (mkS σ [] [] [(7, w_r0)] []) H locs (F0 m 5 ls [])) (x1 : Int32) (x2 : Int32) (x3 : Int32) (v_r0 : Nat → Int32) (H : Heap) (locs : List Loc) (ls : Array Slot), lv_has ls 4 [(0, .ref (g.2.1 7)), (1, .int x1), (2, .int x2), (3, .int x3)] → GW g s (mkS σ [] [] [(7, v_r0)] []) H locs → JA_fillI_n5 k5 60 x1 x2 x3 v_r0 = some w_r0 → Wg p l e 0 0 s m args below meth c g none (mkS σ [] [] [(7, w_r0)] []) H locs (F0 m 5 ls []) := by
    intro k5 hk5 x1 x2 x3 v_r0 H locs ls hl hG h
    unfold JA_fillI_n5 at h
    refine lv_iload_n hx hb dJ7_fill_53178_5 rfl (lv_at hl 2 rfl) ?_
    refine lv_iload_n hx hb dJ7_fill_53178_6 rfl (lv_at hl 3 rfl) ?_
    refine lv_icmp_ge (tgt := 20) hx hb dJ7_fill_53178_7 (by decide) (fun c1 => ?_) (fun c1 => ?_)
    · have h := ite_t c1 h
      exact n20 v_r0 _ _ _ (lv_sub hl [] rfl) hG h
    · have h := ite_f c1 h
      refine lv_aload_n hx hb dJ7_fill_53178_10 rfl (lv_at hl 0 rfl) ?_
      refine lv_iload_n hx hb dJ7_fill_53178_11 rfl (lv_at hl 2 rfl) ?_
      refine lv_iload_n hx hb dJ7_fill_53178_12 rfl (lv_at hl 1 rfl) ?_
      obtain ⟨hg2, h⟩ := gd_some h
      refine gx_iast (σ' := (mkS σ [] [] [(7, (upd v_r0 (x2.toNatClampNeg) x1))] [])) (f := v_r0) hx hb hK hG (ga_7 g _) hg2 ((gs_7 g _ _).trans (congrArg (g_cells g) (mk_c 0 rfl rfl))) dJ7_fill_53178_13 (fun H locs hG => ?_)
      refine lv_iinc (v := (x2 + (1 : Int32))) (lv' := [(2, .int (x2 + (1 : Int32))), (0, .ref (g.2.1 7)), (1, .int x1), (3, .int x3)]) hx hb dJ7_fill_53178_14 hl (k := 2) rfl (congrArg (fun z => x2 + z) (by decide)) (Nat.le_of_ble_eq_true rfl) rfl (fun ls hl => ?_)
      refine lv_goto (tgt := 5) hx hb dJ7_fill_53178_17 (by decide) ?_
      exact hk5 x1 (x2 + (1 : Int32)) x3 (upd v_r0 (x2.toNatClampNeg) x1) _ _ _ (lv_sub hl [1, 2, 0, 3] rfl) hG h
  have l5 : ∀  (F : Nat) (x1 : Int32) (x2 : Int32) (x3 : Int32) (v_r0 : Nat → Int32) (H : Heap) (locs : List Loc) (ls : Array Slot), lv_has ls 4 [(0, .ref (g.2.1 7)), (1, .int x1), (2, .int x2), (3, .int x3)] → GW g s (mkS σ [] [] [(7, v_r0)] []) H locs → JA_fillI_l5 60 F x1 x2 x3 v_r0 = some w_r0 → Wg p l e 0 0 s m args below meth c g none (mkS σ [] [] [(7, w_r0)] []) H locs (F0 m 5 ls []) := by
    intro F
    induction F with
    | zero => intro x1 x2 x3 v_r0 H locs ls hl hG h; exact no_some h
    | succ F ih => intro x1 x2 x3 v_r0 H locs ls hl hG h; exact n5 (fun x1 x2 x3 v_r0 => JA_fillI_l5 60 F x1 x2 x3 v_r0) ih x1 x2 x3 v_r0 H locs ls hl hG h
  refine lv_iconst (v := (0 : Int32)) hx hb dJ7_fill_53178_0 (by decide) ?_
  refine lv_istore_n (lv' := [(2, .int (0 : Int32)), (0, .ref (g.2.1 7)), (1, .int x1)]) hx hb dJ7_fill_53178_1 rfl hl (Nat.le_of_ble_eq_true rfl) rfl (fun ls hl => ?_)
  refine lv_aload_n hx hb dJ7_fill_53178_2 rfl (lv_at hl 1 rfl) ?_
  refine gx_alen (v := (Int32.ofNat 60)) hx hb hK hG 0 (ga_7 g _) rfl rfl dJ7_fill_53178_3 ?_
  refine lv_istore_n (lv' := [(3, .int (Int32.ofNat 60)), (2, .int (0 : Int32)), (0, .ref (g.2.1 7)), (1, .int x1)]) hx hb dJ7_fill_53178_4 rfl hl (Nat.le_of_ble_eq_true rfl) rfl (fun ls hl => ?_)
  exact l5 FUEL x1 (0 : Int32) (Int32.ofNat 60) (σ.2.2.1 7) _ _ _ (lv_sub hl [2, 3, 1, 0] rfl) hG h

set_option maxHeartbeats 4000000 in
set_option maxRecDepth 100000 in
theorem c_Sh_lay_6 (l : Launch) (g : GC) (σ : St) (x1 : Int32) (x2 : Int32) (w_size : Int32) (w_sort : Int32) (w_there : Int32) (w_cells : Nat → Int32) (h : Sh_lay x1 x2 (σ.1 387) (σ.1 386) (σ.1 385) (σ.2.2.1 7) = some (w_size, w_sort, w_there, w_cells)) : Cn l g yX5_lay (Cond.code yX5_lay cX5_lay 3 none :: wG) 1 23 [.ref (g.2.1 6), .int x1, .int x2] σ none (mkS σ [(387, w_size), (386, w_sort), (385, w_there)] [] [(7, w_cells)] []) := by
  unfold Cn
  refine Met.ofW (cc := cX5_lay) (maxL := 3) (ret := none) (by decide) rfl ?_
  intro p e s m args below meth c s₁ B hml hv
  obtain ⟨hargs, hP0, hK⟩ := hv
  have hx := B.exec
  have hb := B.bytes
  have hr := B.returns
  have hts : ∀ w ∈ wG, w.before args s = true := fun w h => atoms_spec (ws := (Cond.code yX5_lay cX5_lay 3 none :: wG)) B.pre w (List.mem_cons_of_mem _ h)
  have hown : s.vm.findClass RX5 = some m.cls := findClass_of_methodNamed B.named
  have hlocks := B.notSynchronized
  have hS9 : CallFix p m c cX5_lay 3 s args wG RX5 := ⟨hx, hb, hml, hown, hts⟩
  have hw0 := hts _ mw_1_32
  have hw1 := hts _ mw_1_34
  have hw2 := hts _ mw_1_35
  have hw3 := hts _ mw_1_31
  have hf9 : entryFrame m args 3 = _ := (congrArg (fun a => entryFrame m a 3) hargs).trans (lg_entry_eq m [.ref (g.2.1 6), .int x1, .int x2] 3)
  show Wg p l e 1 23 s m args below meth c g none (mkS σ [(387, w_size), (386, w_sort), (385, w_there)] [] [(7, w_cells)] []) s.heap [] (entryFrame m args 3)
  rw [hf9]
  have hl := lv_entry ([.ref (g.2.1 6), .int x1, .int x2]) (n := 3) (Nat.le_of_ble_eq_true rfl)
  generalize (lg_sl ([.ref (g.2.1 6), .int x1, .int x2]) ++ List.replicate (3 - (lg_sl ([.ref (g.2.1 6), .int x1, .int x2])).length) Slot.unset).toArray = ls at hl ⊢
  have hl : lv_has ls 3 [(0, .ref (g.2.1 6)), (1, .int x1), (2, .int x2)] := hl
  have hG : GW g s σ s.heap [] := ⟨hP0, va_S.rf⟩
  have hG : GW g s (mkS σ [(387, (σ.1 387)), (386, (σ.1 386)), (385, (σ.1 385))] [] [(7, (σ.2.2.1 7))] []) s.heap [] := GW_self [387, 386, 385] [] [7] [] hG
  unfold Sh_lay at h
  refine lv_aload_n hx hb dX5_lay_0 rfl (lv_at hl 0 rfl) ?_
  refine lv_iconst (v := (1 : Int32)) hx hb dX5_lay_1 (by decide) ?_
  refine gx_put (σ' := (mkS σ [(387, (σ.1 387)), (386, (σ.1 386)), (385, (1 : Int32))] [] [(7, (σ.2.2.1 7))] [])) (C := RX5) (T := TX5) (N := 4) hx hb hts mc_X5 tyX5 tyX5_ok nmX5 hown hK hG (ga_6 g _) rfl 1 (by decide) hw0 rfl rfl (isb_n (by decide)) (isb_f (by decide)) (Nat.le_of_ble_eq_true rfl) ((gf_385 g _ _).trans (congrArg (g_cells g) (mk_a 2 rfl rfl))) dX5_lay_2 (fun H locs hG => ?_)
  refine lv_aload_n hx hb dX5_lay_5 rfl (lv_at hl 0 rfl) ?_
  refine lv_iload_n hx hb dX5_lay_6 rfl (lv_at hl 1 rfl) ?_
  refine gx_put (σ' := (mkS σ [(387, (σ.1 387)), (386, x1), (385, (1 : Int32))] [] [(7, (σ.2.2.1 7))] [])) (C := RX5) (T := TX5) (N := 4) hx hb hts mc_X5 tyX5 tyX5_ok nmX5 hown hK hG (ga_6 g _) rfl 2 (by decide) hw1 rfl rfl rfl rfl (Nat.le_of_ble_eq_true rfl) ((gf_386 g _ _).trans (congrArg (g_cells g) (mk_a 1 rfl rfl))) dX5_lay_7 (fun H locs hG => ?_)
  refine lv_aload_n hx hb dX5_lay_10 rfl (lv_at hl 0 rfl) ?_
  refine lv_iload_n hx hb dX5_lay_11 rfl (lv_at hl 2 rfl) ?_
  refine gx_put (σ' := (mkS σ [(387, x2), (386, x1), (385, (1 : Int32))] [] [(7, (σ.2.2.1 7))] [])) (C := RX5) (T := TX5) (N := 4) hx hb hts mc_X5 tyX5 tyX5_ok nmX5 hown hK hG (ga_6 g _) rfl 3 (by decide) hw2 rfl rfl rfl rfl (Nat.le_of_ble_eq_true rfl) ((gf_387 g _ _).trans (congrArg (g_cells g) (mk_a 0 rfl rfl))) dX5_lay_12 (fun H locs hG => ?_)
  refine lv_aload_n hx hb dX5_lay_15 rfl (lv_at hl 0 rfl) ?_
  refine gx_get (v := .ref (g.2.1 7)) (C := RX5) (T := TX5) (N := 4) hx hb hts mc_X5 hown hK hG (ga_6 g _) rfl 0 (by decide) hw3 rfl rfl dX5_lay_16 ?_
  refine lv_iconst (v := (0 : Int32)) hx hb dX5_lay_19 (by decide) ?_
  obtain ⟨z1, hc2, h⟩ := bnd_some h
  refine gx_cS (σ' := (mkS σ [(387, x2), (386, x1), (385, (1 : Int32))] [] [(7, z1)] [])) (r := none) (rest := []) (As := [.ref (g.2.1 7), .int (0 : Int32)]) hS9 (c_JA_fillI_7 l g (mkS σ [(387, x2), (386, x1), (385, (1 : Int32))] [] [(7, (σ.2.2.1 7))] []) (0 : Int32) z1 hc2) (mk_mk rfl rfl rfl rfl) (va_cwS 2 hts (gz_S mw_2_88 mw_1_155 mw_1_8 mw_1_156) rfl rfl rfl hdS_J7_fill_53178 ⟨Nat.le_of_ble_eq_true rfl, Nat.le_of_ble_eq_true rfl⟩) hK hG rfl hl.1 rfl (Nat.le_of_ble_eq_true rfl) dX5_lay_20 (fun H locs hG => ?_)
  refine W.eq (g2 := F0 m 23 ls []) rfl ?_
  cases h
  exact gx_vret hx hb hr hlocks hG dX5_lay_23

set_option maxHeartbeats 4000000 in
set_option maxRecDepth 100000 in
theorem c_LN_sheet_s2 (l : Launch) (g : GC) (σ : St) (x2 : Int32) (x3 : Int32) (r : Int32) (w_sheets2_size : Int32) (w_sheets2_sort : Int32) (w_sheets2_there : Int32) (w_sheets2_cells : Nat → Int32) (h : LN_sheet_s2 x2 x3 (σ.1 387) (σ.1 386) (σ.1 385) (σ.2.2.1 7) = some (r, w_sheets2_size, w_sheets2_sort, w_sheets2_there, w_sheets2_cells)) : Cn l g yX8_sheet (Cond.code yX8_sheet cX8_sheet 4 (some .int) :: wG) 2 45 [.ref (g.2.1 0), .int (2 : Int32), .int x2, .int x3] σ (some (.int r)) (mkS σ [(387, w_sheets2_size), (386, w_sheets2_sort), (385, w_sheets2_there)] [] [(7, w_sheets2_cells)] []) := by
  unfold Cn
  refine Met.ofW (cc := cX8_sheet) (maxL := 4) (ret := (some .int)) (by decide) rfl ?_
  intro p e s m args below meth c s₁ B hml hv
  obtain ⟨hargs, hP0, hK⟩ := hv
  have hx := B.exec
  have hb := B.bytes
  have hr := B.returns
  have hts : ∀ w ∈ wG, w.before args s = true := fun w h => atoms_spec (ws := (Cond.code yX8_sheet cX8_sheet 4 (some .int) :: wG)) B.pre w (List.mem_cons_of_mem _ h)
  have hown : s.vm.findClass RX8 = some m.cls := findClass_of_methodNamed B.named
  have hlocks := B.notSynchronized
  have hS9 : CallFix p m c cX8_sheet 4 s args wG RX8 := ⟨hx, hb, hml, hown, hts⟩
  have hw0 := hts _ mw_2_37
  have hf9 : entryFrame m args 4 = _ := (congrArg (fun a => entryFrame m a 4) hargs).trans (lg_entry_eq m [.ref (g.2.1 0), .int (2 : Int32), .int x2, .int x3] 4)
  show Wg p l e 2 45 s m args below meth c g (some (.int r)) (mkS σ [(387, w_sheets2_size), (386, w_sheets2_sort), (385, w_sheets2_there)] [] [(7, w_sheets2_cells)] []) s.heap [] (entryFrame m args 4)
  rw [hf9]
  have hl := lv_entry ([.ref (g.2.1 0), .int (2 : Int32), .int x2, .int x3]) (n := 4) (Nat.le_of_ble_eq_true rfl)
  generalize (lg_sl ([.ref (g.2.1 0), .int (2 : Int32), .int x2, .int x3]) ++ List.replicate (4 - (lg_sl ([.ref (g.2.1 0), .int (2 : Int32), .int x2, .int x3])).length) Slot.unset).toArray = ls at hl ⊢
  have hl : lv_has ls 4 [(0, .ref (g.2.1 0)), (1, .int (2 : Int32)), (2, .int x2), (3, .int x3)] := hl
  have hG : GW g s σ s.heap [] := ⟨hP0, va_S.rf⟩
  have hG : GW g s (mkS σ [(387, (σ.1 387)), (386, (σ.1 386)), (385, (σ.1 385))] [] [(7, (σ.2.2.1 7))] []) s.heap [] := GW_self [387, 386, 385] [] [7] [] hG
  unfold LN_sheet_s2 at h
  have n16 : ∀ (v_sheets2_size : Int32) (v_sheets2_sort : Int32) (v_sheets2_there : Int32) (v_sheets2_cells : Nat → Int32) (H : Heap) (locs : List Loc) (ls : Array Slot), lv_has ls 4 [] → GW g s (mkS σ [(387, v_sheets2_size), (386, v_sheets2_sort), (385, v_sheets2_there)] [] [(7, v_sheets2_cells)] []) H locs → LN_sheet_s2_n16 v_sheets2_size v_sheets2_sort v_sheets2_there v_sheets2_cells = some (r, w_sheets2_size, w_sheets2_sort, w_sheets2_there, w_sheets2_cells) → Wg p l e 2 45 s m args below meth c g (some (.int r)) (mkS σ [(387, w_sheets2_size), (386, w_sheets2_sort), (385, w_sheets2_there)] [] [(7, w_sheets2_cells)] []) H locs (F0 m 16 ls []) := by
    intro v_sheets2_size v_sheets2_sort v_sheets2_there v_sheets2_cells H locs ls hl hG h
    unfold LN_sheet_s2_n16 at h
    refine lv_iconst (v := (-1 : Int32)) hx hb dX8_sheet_16 (by decide) ?_
    cases h
    exact gx_iret hx hb hr hlocks hG dX8_sheet_17
  refine lv_iload_n hx hb dX8_sheet_0 rfl (lv_at hl 1 rfl) ?_
  obtain ⟨z1, hc2, h⟩ := bnd_some h
  refine gx_cS (σ' := (mkS σ [(387, (σ.1 387)), (386, (σ.1 386)), (385, (σ.1 385))] [] [(7, (σ.2.2.1 7))] [])) (r := (some (.int z1))) (rest := []) (As := [.int (2 : Int32)]) hS9 (c_LN_isSheet l g (mkS σ [(387, (σ.1 387)), (386, (σ.1 386)), (385, (σ.1 385))] [] [(7, (σ.2.2.1 7))] []) (2 : Int32) z1 hc2) rfl (va_cwS 1 hts (gz_S mw_2_81 mw_2_82 mw_1_1 mw_2_83) rfl rfl rfl hdS_X8_isSheet ⟨Nat.le_of_ble_eq_true rfl, Nat.le_of_ble_eq_true rfl⟩) hK hG rfl hl.1 rfl (Nat.le_of_ble_eq_true rfl) dX8_sheet_1 (fun H locs hG => ?_)
  refine W.eq (g2 := F0 m 4 ls [.int z1]) rfl ?_
  refine lv_if_eq (tgt := 16) hx hb dX8_sheet_4 (by decide) (fun c3 => ?_) (fun c3 => ?_)
  · have h := ite_t c3 h
    exact n16 (σ.1 387) (σ.1 386) (σ.1 385) (σ.2.2.1 7) _ _ _ (lv_sub hl [] rfl) hG h
  · have h := ite_f c3 h
    refine lv_iload_n hx hb dX8_sheet_7 rfl (lv_at hl 2 rfl) ?_
    refine lv_if_lt (tgt := 16) hx hb dX8_sheet_8 (by decide) (fun c4 => ?_) (fun c4 => ?_)
    · have h := ite_t c4 h
      exact n16 (σ.1 387) (σ.1 386) (σ.1 385) (σ.2.2.1 7) _ _ _ (lv_sub hl [] rfl) hG h
    · have h := ite_f c4 h
      refine lv_iload_n hx hb dX8_sheet_11 rfl (lv_at hl 2 rfl) ?_
      refine lv_iconst (v := (2 : Int32)) hx hb dX8_sheet_12 (by decide) ?_
      refine lv_icmp_le (tgt := 18) hx hb dX8_sheet_13 (by decide) (fun c5 => ?_) (fun c5 => ?_)
      · have h := ite_t c5 h
        refine lv_iload_n hx hb dX8_sheet_18 rfl (lv_at hl 3 rfl) ?_
        refine lv_if_ge (tgt := 25) hx hb dX8_sheet_19 (by decide) (fun c6 => ?_) (fun c6 => ?_)
        · have h := ite_t c6 h
          refine lv_iload_n hx hb dX8_sheet_25 rfl (lv_at hl 3 rfl) ?_
          refine lv_bipush (v := (60 : Int32)) hx hb dX8_sheet_26 (by decide) ?_
          refine lv_icmp_le (tgt := 33) hx hb dX8_sheet_28 (by decide) (fun c7 => ?_) (fun c7 => ?_)
          · have h := ite_t c7 h
            refine lv_aload_n hx hb dX8_sheet_33 rfl (lv_at hl 0 rfl) ?_
            refine gx_get (v := .ref (g.2.1 1)) (C := RX8) (T := TX8) (N := 13) hx hb hts mc_X8 hown hK hG (ga_0 g _) rfl 0 (by decide) hw0 rfl rfl dX8_sheet_34 ?_
            refine lv_iload_n hx hb dX8_sheet_37 rfl (lv_at hl 1 rfl) ?_
            refine gx_aald (v := .ref (g.2.1 6)) hx hb hK hG (ga_1 g _) (by decide) rfl dX8_sheet_38 ?_
            refine lv_iload_n hx hb dX8_sheet_39 rfl (lv_at hl 2 rfl) ?_
            refine lv_iload_n hx hb dX8_sheet_40 rfl (lv_at hl 3 rfl) ?_
            obtain ⟨z8, hc9, h⟩ := bnd_some h
            refine gx_cV (σ' := (mkS σ [(387, z8.1), (386, z8.2.1), (385, z8.2.2.1)] [] [(7, z8.2.2.2)] [])) (r := none) (rest := []) (As := [.int x2, .int x3]) hS9 (c_Sh_lay_6 l g (mkS σ [(387, (σ.1 387)), (386, (σ.1 386)), (385, (σ.1 385))] [] [(7, (σ.2.2.1 7))] []) x2 x3 z8.1 z8.2.1 z8.2.2.1 z8.2.2.2 hc9) (mk_mk rfl rfl rfl rfl) (cwV 2 hts (gz_V mw_2_84 mw_2_85 mw_2_86 mw_1_2 mw_2_87) rfl rfl rfl hdV_X5_lay ⟨Nat.le_of_ble_eq_true rfl, Nat.le_of_ble_eq_true rfl⟩) hK hG (ga_6 g _) rfl rfl rfl hl.1 rfl (Nat.le_of_ble_eq_true rfl) dX8_sheet_41 (fun H locs hG => ?_)
            refine W.eq (g2 := F0 m 44 ls []) rfl ?_
            refine lv_iconst (v := (1 : Int32)) hx hb dX8_sheet_44 (by decide) ?_
            cases h
            exact gx_iret hx hb hr hlocks hG dX8_sheet_45
          · have h := ite_f c7 h
            refine lv_iconst (v := (-1 : Int32)) hx hb dX8_sheet_31 (by decide) ?_
            cases h
            exact gx_iret hx hb hr hlocks hG dX8_sheet_32
        · have h := ite_f c6 h
          refine lv_bipush (v := (-4 : Int32)) hx hb dX8_sheet_22 (by decide) ?_
          cases h
          exact gx_iret hx hb hr hlocks hG dX8_sheet_24
      · have h := ite_f c5 h
        exact n16 (σ.1 387) (σ.1 386) (σ.1 385) (σ.2.2.1 7) _ _ _ (lv_sub hl [] rfl) hG h

set_option maxHeartbeats 4000000 in
set_option maxRecDepth 100000 in
theorem c_JA_fillI_9 (l : Launch) (g : GC) (σ : St) (x1 : Int32) (w_r0 : Nat → Int32) (h : JA_fillI x1 60 (σ.2.2.1 9) = some w_r0) : Cn l g yJ7_fill_53178 (Cond.code yJ7_fill_53178 cJ7_fill_53178 4 none :: wG) 0 0 [.ref (g.2.1 9), .int x1] σ none (mkS σ [] [] [(9, w_r0)] []) := by
  unfold Cn
  refine Met.ofW (cc := cJ7_fill_53178) (maxL := 4) (ret := none) (by decide) rfl ?_
  intro p e s m args below meth c s₁ B hml hv
  obtain ⟨hargs, hP0, hK⟩ := hv
  have hx := B.exec
  have hb := B.bytes
  have hr := B.returns
  have hts : ∀ w ∈ wG, w.before args s = true := fun w h => atoms_spec (ws := (Cond.code yJ7_fill_53178 cJ7_fill_53178 4 none :: wG)) B.pre w (List.mem_cons_of_mem _ h)
  have hown : s.vm.findClass RJ7 = some m.cls := findClass_of_methodNamed B.named
  have hlocks := B.notSynchronized
  have hf9 : entryFrame m args 4 = _ := (congrArg (fun a => entryFrame m a 4) hargs).trans (lg_entry_eq m [.ref (g.2.1 9), .int x1] 4)
  show Wg p l e 0 0 s m args below meth c g none (mkS σ [] [] [(9, w_r0)] []) s.heap [] (entryFrame m args 4)
  rw [hf9]
  have hl := lv_entry ([.ref (g.2.1 9), .int x1]) (n := 4) (Nat.le_of_ble_eq_true rfl)
  generalize (lg_sl ([.ref (g.2.1 9), .int x1]) ++ List.replicate (4 - (lg_sl ([.ref (g.2.1 9), .int x1])).length) Slot.unset).toArray = ls at hl ⊢
  have hl : lv_has ls 4 [(0, .ref (g.2.1 9)), (1, .int x1)] := hl
  have hG : GW g s σ s.heap [] := ⟨hP0, va_S.rf⟩
  have hG : GW g s (mkS σ [] [] [(9, (σ.2.2.1 9))] []) s.heap [] := GW_self [] [] [9] [] hG
  unfold JA_fillI at h
  have n20 : ∀ (v_r0 : Nat → Int32) (H : Heap) (locs : List Loc) (ls : Array Slot), lv_has ls 4 [] → GW g s (mkS σ [] [] [(9, v_r0)] []) H locs → JA_fillI_n20 60 v_r0 = some w_r0 → Wg p l e 0 0 s m args below meth c g none (mkS σ [] [] [(9, w_r0)] []) H locs (F0 m 20 ls []) := by
    intro v_r0 H locs ls hl hG h
    unfold JA_fillI_n20 at h
    cases h
    exact gx_vret hx hb hr hlocks hG dJ7_fill_53178_20
  have n5 : ∀ (k5 : Int32 → Int32 → Int32 → (Nat → Int32) → Option ((Nat → Int32))) (hk5 : ∀ (x1 : Int32) (x2 : Int32) (x3 : Int32) (v_r0 : Nat → Int32) (H : Heap) (locs : List Loc) (ls : Array Slot), lv_has ls 4 [(0, .ref (g.2.1 9)), (1, .int x1), (2, .int x2), (3, .int x3)] → GW g s (mkS σ [] [] [(9, v_r0)] []) H locs → k5 x1 x2 x3 v_r0 = some w_r0 → Wg p l e 0 0 s m args below meth c g none (mkS σ [] [] [(9, w_r0)] []) H locs (F0 m 5 ls [])) (x1 : Int32) (x2 : Int32) (x3 : Int32) (v_r0 : Nat → Int32) (H : Heap) (locs : List Loc) (ls : Array Slot), lv_has ls 4 [(0, .ref (g.2.1 9)), (1, .int x1), (2, .int x2), (3, .int x3)] → GW g s (mkS σ [] [] [(9, v_r0)] []) H locs → JA_fillI_n5 k5 60 x1 x2 x3 v_r0 = some w_r0 → Wg p l e 0 0 s m args below meth c g none (mkS σ [] [] [(9, w_r0)] []) H locs (F0 m 5 ls []) := by
    intro k5 hk5 x1 x2 x3 v_r0 H locs ls hl hG h
    unfold JA_fillI_n5 at h
    refine lv_iload_n hx hb dJ7_fill_53178_5 rfl (lv_at hl 2 rfl) ?_
    refine lv_iload_n hx hb dJ7_fill_53178_6 rfl (lv_at hl 3 rfl) ?_
    refine lv_icmp_ge (tgt := 20) hx hb dJ7_fill_53178_7 (by decide) (fun c1 => ?_) (fun c1 => ?_)
    · have h := ite_t c1 h
      exact n20 v_r0 _ _ _ (lv_sub hl [] rfl) hG h
    · have h := ite_f c1 h
      refine lv_aload_n hx hb dJ7_fill_53178_10 rfl (lv_at hl 0 rfl) ?_
      refine lv_iload_n hx hb dJ7_fill_53178_11 rfl (lv_at hl 2 rfl) ?_
      refine lv_iload_n hx hb dJ7_fill_53178_12 rfl (lv_at hl 1 rfl) ?_
      obtain ⟨hg2, h⟩ := gd_some h
      refine gx_iast (σ' := (mkS σ [] [] [(9, (upd v_r0 (x2.toNatClampNeg) x1))] [])) (f := v_r0) hx hb hK hG (ga_9 g _) hg2 ((gs_9 g _ _).trans (congrArg (g_cells g) (mk_c 0 rfl rfl))) dJ7_fill_53178_13 (fun H locs hG => ?_)
      refine lv_iinc (v := (x2 + (1 : Int32))) (lv' := [(2, .int (x2 + (1 : Int32))), (0, .ref (g.2.1 9)), (1, .int x1), (3, .int x3)]) hx hb dJ7_fill_53178_14 hl (k := 2) rfl (congrArg (fun z => x2 + z) (by decide)) (Nat.le_of_ble_eq_true rfl) rfl (fun ls hl => ?_)
      refine lv_goto (tgt := 5) hx hb dJ7_fill_53178_17 (by decide) ?_
      exact hk5 x1 (x2 + (1 : Int32)) x3 (upd v_r0 (x2.toNatClampNeg) x1) _ _ _ (lv_sub hl [1, 2, 0, 3] rfl) hG h
  have l5 : ∀  (F : Nat) (x1 : Int32) (x2 : Int32) (x3 : Int32) (v_r0 : Nat → Int32) (H : Heap) (locs : List Loc) (ls : Array Slot), lv_has ls 4 [(0, .ref (g.2.1 9)), (1, .int x1), (2, .int x2), (3, .int x3)] → GW g s (mkS σ [] [] [(9, v_r0)] []) H locs → JA_fillI_l5 60 F x1 x2 x3 v_r0 = some w_r0 → Wg p l e 0 0 s m args below meth c g none (mkS σ [] [] [(9, w_r0)] []) H locs (F0 m 5 ls []) := by
    intro F
    induction F with
    | zero => intro x1 x2 x3 v_r0 H locs ls hl hG h; exact no_some h
    | succ F ih => intro x1 x2 x3 v_r0 H locs ls hl hG h; exact n5 (fun x1 x2 x3 v_r0 => JA_fillI_l5 60 F x1 x2 x3 v_r0) ih x1 x2 x3 v_r0 H locs ls hl hG h
  refine lv_iconst (v := (0 : Int32)) hx hb dJ7_fill_53178_0 (by decide) ?_
  refine lv_istore_n (lv' := [(2, .int (0 : Int32)), (0, .ref (g.2.1 9)), (1, .int x1)]) hx hb dJ7_fill_53178_1 rfl hl (Nat.le_of_ble_eq_true rfl) rfl (fun ls hl => ?_)
  refine lv_aload_n hx hb dJ7_fill_53178_2 rfl (lv_at hl 1 rfl) ?_
  refine gx_alen (v := (Int32.ofNat 60)) hx hb hK hG 0 (ga_9 g _) rfl rfl dJ7_fill_53178_3 ?_
  refine lv_istore_n (lv' := [(3, .int (Int32.ofNat 60)), (2, .int (0 : Int32)), (0, .ref (g.2.1 9)), (1, .int x1)]) hx hb dJ7_fill_53178_4 rfl hl (Nat.le_of_ble_eq_true rfl) rfl (fun ls hl => ?_)
  exact l5 FUEL x1 (0 : Int32) (Int32.ofNat 60) (σ.2.2.1 9) _ _ _ (lv_sub hl [2, 3, 1, 0] rfl) hG h

set_option maxHeartbeats 4000000 in
set_option maxRecDepth 100000 in
theorem c_Sh_lay_8 (l : Launch) (g : GC) (σ : St) (x1 : Int32) (x2 : Int32) (w_size : Int32) (w_sort : Int32) (w_there : Int32) (w_cells : Nat → Int32) (h : Sh_lay x1 x2 (σ.1 515) (σ.1 514) (σ.1 513) (σ.2.2.1 9) = some (w_size, w_sort, w_there, w_cells)) : Cn l g yX5_lay (Cond.code yX5_lay cX5_lay 3 none :: wG) 1 23 [.ref (g.2.1 8), .int x1, .int x2] σ none (mkS σ [(515, w_size), (514, w_sort), (513, w_there)] [] [(9, w_cells)] []) := by
  unfold Cn
  refine Met.ofW (cc := cX5_lay) (maxL := 3) (ret := none) (by decide) rfl ?_
  intro p e s m args below meth c s₁ B hml hv
  obtain ⟨hargs, hP0, hK⟩ := hv
  have hx := B.exec
  have hb := B.bytes
  have hr := B.returns
  have hts : ∀ w ∈ wG, w.before args s = true := fun w h => atoms_spec (ws := (Cond.code yX5_lay cX5_lay 3 none :: wG)) B.pre w (List.mem_cons_of_mem _ h)
  have hown : s.vm.findClass RX5 = some m.cls := findClass_of_methodNamed B.named
  have hlocks := B.notSynchronized
  have hS9 : CallFix p m c cX5_lay 3 s args wG RX5 := ⟨hx, hb, hml, hown, hts⟩
  have hw0 := hts _ mw_1_32
  have hw1 := hts _ mw_1_34
  have hw2 := hts _ mw_1_35
  have hw3 := hts _ mw_1_31
  have hf9 : entryFrame m args 3 = _ := (congrArg (fun a => entryFrame m a 3) hargs).trans (lg_entry_eq m [.ref (g.2.1 8), .int x1, .int x2] 3)
  show Wg p l e 1 23 s m args below meth c g none (mkS σ [(515, w_size), (514, w_sort), (513, w_there)] [] [(9, w_cells)] []) s.heap [] (entryFrame m args 3)
  rw [hf9]
  have hl := lv_entry ([.ref (g.2.1 8), .int x1, .int x2]) (n := 3) (Nat.le_of_ble_eq_true rfl)
  generalize (lg_sl ([.ref (g.2.1 8), .int x1, .int x2]) ++ List.replicate (3 - (lg_sl ([.ref (g.2.1 8), .int x1, .int x2])).length) Slot.unset).toArray = ls at hl ⊢
  have hl : lv_has ls 3 [(0, .ref (g.2.1 8)), (1, .int x1), (2, .int x2)] := hl
  have hG : GW g s σ s.heap [] := ⟨hP0, va_S.rf⟩
  have hG : GW g s (mkS σ [(515, (σ.1 515)), (514, (σ.1 514)), (513, (σ.1 513))] [] [(9, (σ.2.2.1 9))] []) s.heap [] := GW_self [515, 514, 513] [] [9] [] hG
  unfold Sh_lay at h
  refine lv_aload_n hx hb dX5_lay_0 rfl (lv_at hl 0 rfl) ?_
  refine lv_iconst (v := (1 : Int32)) hx hb dX5_lay_1 (by decide) ?_
  refine gx_put (σ' := (mkS σ [(515, (σ.1 515)), (514, (σ.1 514)), (513, (1 : Int32))] [] [(9, (σ.2.2.1 9))] [])) (C := RX5) (T := TX5) (N := 4) hx hb hts mc_X5 tyX5 tyX5_ok nmX5 hown hK hG (ga_8 g _) rfl 1 (by decide) hw0 rfl rfl (isb_n (by decide)) (isb_f (by decide)) (Nat.le_of_ble_eq_true rfl) ((gf_513 g _ _).trans (congrArg (g_cells g) (mk_a 2 rfl rfl))) dX5_lay_2 (fun H locs hG => ?_)
  refine lv_aload_n hx hb dX5_lay_5 rfl (lv_at hl 0 rfl) ?_
  refine lv_iload_n hx hb dX5_lay_6 rfl (lv_at hl 1 rfl) ?_
  refine gx_put (σ' := (mkS σ [(515, (σ.1 515)), (514, x1), (513, (1 : Int32))] [] [(9, (σ.2.2.1 9))] [])) (C := RX5) (T := TX5) (N := 4) hx hb hts mc_X5 tyX5 tyX5_ok nmX5 hown hK hG (ga_8 g _) rfl 2 (by decide) hw1 rfl rfl rfl rfl (Nat.le_of_ble_eq_true rfl) ((gf_514 g _ _).trans (congrArg (g_cells g) (mk_a 1 rfl rfl))) dX5_lay_7 (fun H locs hG => ?_)
  refine lv_aload_n hx hb dX5_lay_10 rfl (lv_at hl 0 rfl) ?_
  refine lv_iload_n hx hb dX5_lay_11 rfl (lv_at hl 2 rfl) ?_
  refine gx_put (σ' := (mkS σ [(515, x2), (514, x1), (513, (1 : Int32))] [] [(9, (σ.2.2.1 9))] [])) (C := RX5) (T := TX5) (N := 4) hx hb hts mc_X5 tyX5 tyX5_ok nmX5 hown hK hG (ga_8 g _) rfl 3 (by decide) hw2 rfl rfl rfl rfl (Nat.le_of_ble_eq_true rfl) ((gf_515 g _ _).trans (congrArg (g_cells g) (mk_a 0 rfl rfl))) dX5_lay_12 (fun H locs hG => ?_)
  refine lv_aload_n hx hb dX5_lay_15 rfl (lv_at hl 0 rfl) ?_
  refine gx_get (v := .ref (g.2.1 9)) (C := RX5) (T := TX5) (N := 4) hx hb hts mc_X5 hown hK hG (ga_8 g _) rfl 0 (by decide) hw3 rfl rfl dX5_lay_16 ?_
  refine lv_iconst (v := (0 : Int32)) hx hb dX5_lay_19 (by decide) ?_
  obtain ⟨z1, hc2, h⟩ := bnd_some h
  refine gx_cS (σ' := (mkS σ [(515, x2), (514, x1), (513, (1 : Int32))] [] [(9, z1)] [])) (r := none) (rest := []) (As := [.ref (g.2.1 9), .int (0 : Int32)]) hS9 (c_JA_fillI_9 l g (mkS σ [(515, x2), (514, x1), (513, (1 : Int32))] [] [(9, (σ.2.2.1 9))] []) (0 : Int32) z1 hc2) (mk_mk rfl rfl rfl rfl) (va_cwS 2 hts (gz_S mw_2_88 mw_1_155 mw_1_8 mw_1_156) rfl rfl rfl hdS_J7_fill_53178 ⟨Nat.le_of_ble_eq_true rfl, Nat.le_of_ble_eq_true rfl⟩) hK hG rfl hl.1 rfl (Nat.le_of_ble_eq_true rfl) dX5_lay_20 (fun H locs hG => ?_)
  refine W.eq (g2 := F0 m 23 ls []) rfl ?_
  cases h
  exact gx_vret hx hb hr hlocks hG dX5_lay_23

set_option maxHeartbeats 4000000 in
set_option maxRecDepth 100000 in
theorem c_LN_sheet_s3 (l : Launch) (g : GC) (σ : St) (x2 : Int32) (x3 : Int32) (r : Int32) (w_sheets3_size : Int32) (w_sheets3_sort : Int32) (w_sheets3_there : Int32) (w_sheets3_cells : Nat → Int32) (h : LN_sheet_s3 x2 x3 (σ.1 515) (σ.1 514) (σ.1 513) (σ.2.2.1 9) = some (r, w_sheets3_size, w_sheets3_sort, w_sheets3_there, w_sheets3_cells)) : Cn l g yX8_sheet (Cond.code yX8_sheet cX8_sheet 4 (some .int) :: wG) 2 45 [.ref (g.2.1 0), .int (3 : Int32), .int x2, .int x3] σ (some (.int r)) (mkS σ [(515, w_sheets3_size), (514, w_sheets3_sort), (513, w_sheets3_there)] [] [(9, w_sheets3_cells)] []) := by
  unfold Cn
  refine Met.ofW (cc := cX8_sheet) (maxL := 4) (ret := (some .int)) (by decide) rfl ?_
  intro p e s m args below meth c s₁ B hml hv
  obtain ⟨hargs, hP0, hK⟩ := hv
  have hx := B.exec
  have hb := B.bytes
  have hr := B.returns
  have hts : ∀ w ∈ wG, w.before args s = true := fun w h => atoms_spec (ws := (Cond.code yX8_sheet cX8_sheet 4 (some .int) :: wG)) B.pre w (List.mem_cons_of_mem _ h)
  have hown : s.vm.findClass RX8 = some m.cls := findClass_of_methodNamed B.named
  have hlocks := B.notSynchronized
  have hS9 : CallFix p m c cX8_sheet 4 s args wG RX8 := ⟨hx, hb, hml, hown, hts⟩
  have hw0 := hts _ mw_2_37
  have hf9 : entryFrame m args 4 = _ := (congrArg (fun a => entryFrame m a 4) hargs).trans (lg_entry_eq m [.ref (g.2.1 0), .int (3 : Int32), .int x2, .int x3] 4)
  show Wg p l e 2 45 s m args below meth c g (some (.int r)) (mkS σ [(515, w_sheets3_size), (514, w_sheets3_sort), (513, w_sheets3_there)] [] [(9, w_sheets3_cells)] []) s.heap [] (entryFrame m args 4)
  rw [hf9]
  have hl := lv_entry ([.ref (g.2.1 0), .int (3 : Int32), .int x2, .int x3]) (n := 4) (Nat.le_of_ble_eq_true rfl)
  generalize (lg_sl ([.ref (g.2.1 0), .int (3 : Int32), .int x2, .int x3]) ++ List.replicate (4 - (lg_sl ([.ref (g.2.1 0), .int (3 : Int32), .int x2, .int x3])).length) Slot.unset).toArray = ls at hl ⊢
  have hl : lv_has ls 4 [(0, .ref (g.2.1 0)), (1, .int (3 : Int32)), (2, .int x2), (3, .int x3)] := hl
  have hG : GW g s σ s.heap [] := ⟨hP0, va_S.rf⟩
  have hG : GW g s (mkS σ [(515, (σ.1 515)), (514, (σ.1 514)), (513, (σ.1 513))] [] [(9, (σ.2.2.1 9))] []) s.heap [] := GW_self [515, 514, 513] [] [9] [] hG
  unfold LN_sheet_s3 at h
  have n16 : ∀ (v_sheets3_size : Int32) (v_sheets3_sort : Int32) (v_sheets3_there : Int32) (v_sheets3_cells : Nat → Int32) (H : Heap) (locs : List Loc) (ls : Array Slot), lv_has ls 4 [] → GW g s (mkS σ [(515, v_sheets3_size), (514, v_sheets3_sort), (513, v_sheets3_there)] [] [(9, v_sheets3_cells)] []) H locs → LN_sheet_s3_n16 v_sheets3_size v_sheets3_sort v_sheets3_there v_sheets3_cells = some (r, w_sheets3_size, w_sheets3_sort, w_sheets3_there, w_sheets3_cells) → Wg p l e 2 45 s m args below meth c g (some (.int r)) (mkS σ [(515, w_sheets3_size), (514, w_sheets3_sort), (513, w_sheets3_there)] [] [(9, w_sheets3_cells)] []) H locs (F0 m 16 ls []) := by
    intro v_sheets3_size v_sheets3_sort v_sheets3_there v_sheets3_cells H locs ls hl hG h
    unfold LN_sheet_s3_n16 at h
    refine lv_iconst (v := (-1 : Int32)) hx hb dX8_sheet_16 (by decide) ?_
    cases h
    exact gx_iret hx hb hr hlocks hG dX8_sheet_17
  refine lv_iload_n hx hb dX8_sheet_0 rfl (lv_at hl 1 rfl) ?_
  obtain ⟨z1, hc2, h⟩ := bnd_some h
  refine gx_cS (σ' := (mkS σ [(515, (σ.1 515)), (514, (σ.1 514)), (513, (σ.1 513))] [] [(9, (σ.2.2.1 9))] [])) (r := (some (.int z1))) (rest := []) (As := [.int (3 : Int32)]) hS9 (c_LN_isSheet l g (mkS σ [(515, (σ.1 515)), (514, (σ.1 514)), (513, (σ.1 513))] [] [(9, (σ.2.2.1 9))] []) (3 : Int32) z1 hc2) rfl (va_cwS 1 hts (gz_S mw_2_81 mw_2_82 mw_1_1 mw_2_83) rfl rfl rfl hdS_X8_isSheet ⟨Nat.le_of_ble_eq_true rfl, Nat.le_of_ble_eq_true rfl⟩) hK hG rfl hl.1 rfl (Nat.le_of_ble_eq_true rfl) dX8_sheet_1 (fun H locs hG => ?_)
  refine W.eq (g2 := F0 m 4 ls [.int z1]) rfl ?_
  refine lv_if_eq (tgt := 16) hx hb dX8_sheet_4 (by decide) (fun c3 => ?_) (fun c3 => ?_)
  · have h := ite_t c3 h
    exact n16 (σ.1 515) (σ.1 514) (σ.1 513) (σ.2.2.1 9) _ _ _ (lv_sub hl [] rfl) hG h
  · have h := ite_f c3 h
    refine lv_iload_n hx hb dX8_sheet_7 rfl (lv_at hl 2 rfl) ?_
    refine lv_if_lt (tgt := 16) hx hb dX8_sheet_8 (by decide) (fun c4 => ?_) (fun c4 => ?_)
    · have h := ite_t c4 h
      exact n16 (σ.1 515) (σ.1 514) (σ.1 513) (σ.2.2.1 9) _ _ _ (lv_sub hl [] rfl) hG h
    · have h := ite_f c4 h
      refine lv_iload_n hx hb dX8_sheet_11 rfl (lv_at hl 2 rfl) ?_
      refine lv_iconst (v := (2 : Int32)) hx hb dX8_sheet_12 (by decide) ?_
      refine lv_icmp_le (tgt := 18) hx hb dX8_sheet_13 (by decide) (fun c5 => ?_) (fun c5 => ?_)
      · have h := ite_t c5 h
        refine lv_iload_n hx hb dX8_sheet_18 rfl (lv_at hl 3 rfl) ?_
        refine lv_if_ge (tgt := 25) hx hb dX8_sheet_19 (by decide) (fun c6 => ?_) (fun c6 => ?_)
        · have h := ite_t c6 h
          refine lv_iload_n hx hb dX8_sheet_25 rfl (lv_at hl 3 rfl) ?_
          refine lv_bipush (v := (60 : Int32)) hx hb dX8_sheet_26 (by decide) ?_
          refine lv_icmp_le (tgt := 33) hx hb dX8_sheet_28 (by decide) (fun c7 => ?_) (fun c7 => ?_)
          · have h := ite_t c7 h
            refine lv_aload_n hx hb dX8_sheet_33 rfl (lv_at hl 0 rfl) ?_
            refine gx_get (v := .ref (g.2.1 1)) (C := RX8) (T := TX8) (N := 13) hx hb hts mc_X8 hown hK hG (ga_0 g _) rfl 0 (by decide) hw0 rfl rfl dX8_sheet_34 ?_
            refine lv_iload_n hx hb dX8_sheet_37 rfl (lv_at hl 1 rfl) ?_
            refine gx_aald (v := .ref (g.2.1 8)) hx hb hK hG (ga_1 g _) (by decide) rfl dX8_sheet_38 ?_
            refine lv_iload_n hx hb dX8_sheet_39 rfl (lv_at hl 2 rfl) ?_
            refine lv_iload_n hx hb dX8_sheet_40 rfl (lv_at hl 3 rfl) ?_
            obtain ⟨z8, hc9, h⟩ := bnd_some h
            refine gx_cV (σ' := (mkS σ [(515, z8.1), (514, z8.2.1), (513, z8.2.2.1)] [] [(9, z8.2.2.2)] [])) (r := none) (rest := []) (As := [.int x2, .int x3]) hS9 (c_Sh_lay_8 l g (mkS σ [(515, (σ.1 515)), (514, (σ.1 514)), (513, (σ.1 513))] [] [(9, (σ.2.2.1 9))] []) x2 x3 z8.1 z8.2.1 z8.2.2.1 z8.2.2.2 hc9) (mk_mk rfl rfl rfl rfl) (cwV 2 hts (gz_V mw_2_84 mw_2_85 mw_2_86 mw_1_2 mw_2_87) rfl rfl rfl hdV_X5_lay ⟨Nat.le_of_ble_eq_true rfl, Nat.le_of_ble_eq_true rfl⟩) hK hG (ga_8 g _) rfl rfl rfl hl.1 rfl (Nat.le_of_ble_eq_true rfl) dX8_sheet_41 (fun H locs hG => ?_)
            refine W.eq (g2 := F0 m 44 ls []) rfl ?_
            refine lv_iconst (v := (1 : Int32)) hx hb dX8_sheet_44 (by decide) ?_
            cases h
            exact gx_iret hx hb hr hlocks hG dX8_sheet_45
          · have h := ite_f c7 h
            refine lv_iconst (v := (-1 : Int32)) hx hb dX8_sheet_31 (by decide) ?_
            cases h
            exact gx_iret hx hb hr hlocks hG dX8_sheet_32
        · have h := ite_f c6 h
          refine lv_bipush (v := (-4 : Int32)) hx hb dX8_sheet_22 (by decide) ?_
          cases h
          exact gx_iret hx hb hr hlocks hG dX8_sheet_24
      · have h := ite_f c5 h
        exact n16 (σ.1 515) (σ.1 514) (σ.1 513) (σ.2.2.1 9) _ _ _ (lv_sub hl [] rfl) hG h

set_option maxHeartbeats 4000000 in
set_option maxRecDepth 100000 in
theorem c_LN_sheet_so (l : Launch) (g : GC) (σ : St) (x1 : Int32) (x2 : Int32) (x3 : Int32) (r : Int32) (h : LN_sheet_so x1 x2 x3 = some r) : Cn l g yX8_sheet (Cond.code yX8_sheet cX8_sheet 4 (some .int) :: wG) 2 45 [.ref (g.2.1 0), .int x1, .int x2, .int x3] σ (some (.int r)) σ := by
  unfold Cn
  refine Met.ofW (cc := cX8_sheet) (maxL := 4) (ret := (some .int)) (by decide) rfl ?_
  intro p e s m args below meth c s₁ B hml hv
  obtain ⟨hargs, hP0, hK⟩ := hv
  have hx := B.exec
  have hb := B.bytes
  have hr := B.returns
  have hts : ∀ w ∈ wG, w.before args s = true := fun w h => atoms_spec (ws := (Cond.code yX8_sheet cX8_sheet 4 (some .int) :: wG)) B.pre w (List.mem_cons_of_mem _ h)
  have hown : s.vm.findClass RX8 = some m.cls := findClass_of_methodNamed B.named
  have hlocks := B.notSynchronized
  have hS9 : CallFix p m c cX8_sheet 4 s args wG RX8 := ⟨hx, hb, hml, hown, hts⟩
  have hw0 := hts _ mw_2_37
  have hf9 : entryFrame m args 4 = _ := (congrArg (fun a => entryFrame m a 4) hargs).trans (lg_entry_eq m [.ref (g.2.1 0), .int x1, .int x2, .int x3] 4)
  show Wg p l e 2 45 s m args below meth c g (some (.int r)) σ s.heap [] (entryFrame m args 4)
  rw [hf9]
  have hl := lv_entry ([.ref (g.2.1 0), .int x1, .int x2, .int x3]) (n := 4) (Nat.le_of_ble_eq_true rfl)
  generalize (lg_sl ([.ref (g.2.1 0), .int x1, .int x2, .int x3]) ++ List.replicate (4 - (lg_sl ([.ref (g.2.1 0), .int x1, .int x2, .int x3])).length) Slot.unset).toArray = ls at hl ⊢
  have hl : lv_has ls 4 [(0, .ref (g.2.1 0)), (1, .int x1), (2, .int x2), (3, .int x3)] := hl
  have hG : GW g s σ s.heap [] := ⟨hP0, va_S.rf⟩
  unfold LN_sheet_so at h
  have n16 : ∀  (H : Heap) (locs : List Loc) (ls : Array Slot), lv_has ls 4 [] → GW g s σ H locs → LN_sheet_so_n16 = some r → Wg p l e 2 45 s m args below meth c g (some (.int r)) σ H locs (F0 m 16 ls []) := by
    intro H locs ls hl hG h
    unfold LN_sheet_so_n16 at h
    refine lv_iconst (v := (-1 : Int32)) hx hb dX8_sheet_16 (by decide) ?_
    cases h
    exact gx_iret hx hb hr hlocks hG dX8_sheet_17
  refine lv_iload_n hx hb dX8_sheet_0 rfl (lv_at hl 1 rfl) ?_
  obtain ⟨z1, hc2, h⟩ := bnd_some h
  refine gx_cS (σ' := σ) (r := (some (.int z1))) (rest := []) (As := [.int x1]) hS9 (c_LN_isSheet l g σ x1 z1 hc2) rfl (va_cwS 1 hts (gz_S mw_2_81 mw_2_82 mw_1_1 mw_2_83) rfl rfl rfl hdS_X8_isSheet ⟨Nat.le_of_ble_eq_true rfl, Nat.le_of_ble_eq_true rfl⟩) hK hG rfl hl.1 rfl (Nat.le_of_ble_eq_true rfl) dX8_sheet_1 (fun H locs hG => ?_)
  refine W.eq (g2 := F0 m 4 ls [.int z1]) rfl ?_
  refine lv_if_eq (tgt := 16) hx hb dX8_sheet_4 (by decide) (fun c3 => ?_) (fun c3 => ?_)
  · have h := ite_t c3 h
    exact n16 _ _ _ (lv_sub hl [] rfl) hG h
  · have h := ite_f c3 h
    refine lv_iload_n hx hb dX8_sheet_7 rfl (lv_at hl 2 rfl) ?_
    refine lv_if_lt (tgt := 16) hx hb dX8_sheet_8 (by decide) (fun c4 => ?_) (fun c4 => ?_)
    · have h := ite_t c4 h
      exact n16 _ _ _ (lv_sub hl [] rfl) hG h
    · have h := ite_f c4 h
      refine lv_iload_n hx hb dX8_sheet_11 rfl (lv_at hl 2 rfl) ?_
      refine lv_iconst (v := (2 : Int32)) hx hb dX8_sheet_12 (by decide) ?_
      refine lv_icmp_le (tgt := 18) hx hb dX8_sheet_13 (by decide) (fun c5 => ?_) (fun c5 => ?_)
      · have h := ite_t c5 h
        refine lv_iload_n hx hb dX8_sheet_18 rfl (lv_at hl 3 rfl) ?_
        refine lv_if_ge (tgt := 25) hx hb dX8_sheet_19 (by decide) (fun c6 => ?_) (fun c6 => ?_)
        · have h := ite_t c6 h
          refine lv_iload_n hx hb dX8_sheet_25 rfl (lv_at hl 3 rfl) ?_
          refine lv_bipush (v := (60 : Int32)) hx hb dX8_sheet_26 (by decide) ?_
          refine lv_icmp_le (tgt := 33) hx hb dX8_sheet_28 (by decide) (fun c7 => ?_) (fun c7 => ?_)
          · have h := ite_t c7 h
            refine lv_aload_n hx hb dX8_sheet_33 rfl (lv_at hl 0 rfl) ?_
            refine gx_get (v := .ref (g.2.1 1)) (C := RX8) (T := TX8) (N := 13) hx hb hts mc_X8 hown hK hG (ga_0 g _) rfl 0 (by decide) hw0 rfl rfl dX8_sheet_34 ?_
            refine lv_iload_n hx hb dX8_sheet_37 rfl (lv_at hl 1 rfl) ?_
            exact no_some h
          · have h := ite_f c7 h
            refine lv_iconst (v := (-1 : Int32)) hx hb dX8_sheet_31 (by decide) ?_
            cases h
            exact gx_iret hx hb hr hlocks hG dX8_sheet_32
        · have h := ite_f c6 h
          refine lv_bipush (v := (-4 : Int32)) hx hb dX8_sheet_22 (by decide) ?_
          cases h
          exact gx_iret hx hb hr hlocks hG dX8_sheet_24
      · have h := ite_f c5 h
        exact n16 _ _ _ (lv_sub hl [] rfl) hG h

set_option maxHeartbeats 4000000 in
set_option maxRecDepth 100000 in
theorem c_LN_table (l : Launch) (g : GC) (σ : St) (x1 : Int32) (x2 : Int32) (r : Int32) (w_likeness_clashFrom : Int32) (w_likeness_clashTo : Int32) (w_likeness_holds : Int32) (w_likeness_ready : Int32) (w_ways_far : Int32) (w_ways_ready : Int32) (w_ways_size : Int32) (w_ways_whole : Int32) (w_likeness_a : Nat → Int32) (w_likeness_b : Nat → Int32) (w_likeness_c : Nat → Int32) (w_ways_layers : Nat → Int32) (w_ways_reached : Nat → Int32) (w_ways_steps : Nat → Int32) (h : LN_table x1 x2 (σ.1 1541) (σ.1 1542) (σ.1 1540) (σ.1 1539) (σ.1 641) (σ.1 1286) (σ.1 1283) (σ.1 1285) (σ.1 1284) (σ.2.2.1 26) (σ.2.2.1 27) (σ.2.2.1 25) (σ.2.2.1 11) (σ.2.2.1 22) (σ.2.2.1 23) (σ.2.2.1 21) = some (r, w_likeness_clashFrom, w_likeness_clashTo, w_likeness_holds, w_likeness_ready, w_ways_far, w_ways_ready, w_ways_size, w_ways_whole, w_likeness_a, w_likeness_b, w_likeness_c, w_ways_layers, w_ways_reached, w_ways_steps)) : Cn l g yX8_table (Cond.code yX8_table cX8_table 3 (some .int) :: wG) 6 134 [.ref (g.2.1 0), .int x1, .int x2] σ (some (.int r)) (mkS σ [(1541, w_likeness_clashFrom), (1542, w_likeness_clashTo), (1540, w_likeness_holds), (1539, w_likeness_ready), (1286, w_ways_far), (1283, w_ways_ready), (1285, w_ways_size), (1284, w_ways_whole)] [] [(26, w_likeness_a), (27, w_likeness_b), (25, w_likeness_c), (22, w_ways_layers), (23, w_ways_reached), (21, w_ways_steps)] []) := by
  unfold Cn
  refine Met.ofW (cc := cX8_table) (maxL := 3) (ret := (some .int)) (by decide) rfl ?_
  intro p e s m args below meth c s₁ B hml hv
  obtain ⟨hargs, hP0, hK⟩ := hv
  have hx := B.exec
  have hb := B.bytes
  have hr := B.returns
  have hts : ∀ w ∈ wG, w.before args s = true := fun w h => atoms_spec (ws := (Cond.code yX8_table cX8_table 3 (some .int) :: wG)) B.pre w (List.mem_cons_of_mem _ h)
  have hown : s.vm.findClass RX8 = some m.cls := findClass_of_methodNamed B.named
  have hlocks := B.notSynchronized
  have hS9 : CallFix p m c cX8_table 3 s args wG RX8 := ⟨hx, hb, hml, hown, hts⟩
  have hw0 := hts _ mw_2_44
  have hw1 := hts _ mw_1_93
  have hw2 := hts _ mw_2_45
  have hw3 := hts _ mw_1_116
  have hw4 := hts _ mw_1_118
  have hw5 := hts _ mw_1_120
  have hf9 : entryFrame m args 3 = _ := (congrArg (fun a => entryFrame m a 3) hargs).trans (lg_entry_eq m [.ref (g.2.1 0), .int x1, .int x2] 3)
  show Wg p l e 6 134 s m args below meth c g (some (.int r)) (mkS σ [(1541, w_likeness_clashFrom), (1542, w_likeness_clashTo), (1540, w_likeness_holds), (1539, w_likeness_ready), (1286, w_ways_far), (1283, w_ways_ready), (1285, w_ways_size), (1284, w_ways_whole)] [] [(26, w_likeness_a), (27, w_likeness_b), (25, w_likeness_c), (22, w_ways_layers), (23, w_ways_reached), (21, w_ways_steps)] []) s.heap [] (entryFrame m args 3)
  rw [hf9]
  have hl := lv_entry ([.ref (g.2.1 0), .int x1, .int x2]) (n := 3) (Nat.le_of_ble_eq_true rfl)
  generalize (lg_sl ([.ref (g.2.1 0), .int x1, .int x2]) ++ List.replicate (3 - (lg_sl ([.ref (g.2.1 0), .int x1, .int x2])).length) Slot.unset).toArray = ls at hl ⊢
  have hl : lv_has ls 3 [(0, .ref (g.2.1 0)), (1, .int x1), (2, .int x2)] := hl
  have hG : GW g s σ s.heap [] := ⟨hP0, va_S.rf⟩
  have hG : GW g s (mkS σ [(1541, (σ.1 1541)), (1542, (σ.1 1542)), (1540, (σ.1 1540)), (1539, (σ.1 1539)), (1286, (σ.1 1286)), (1283, (σ.1 1283)), (1285, (σ.1 1285)), (1284, (σ.1 1284))] [] [(26, (σ.2.2.1 26)), (27, (σ.2.2.1 27)), (25, (σ.2.2.1 25)), (22, (σ.2.2.1 22)), (23, (σ.2.2.1 23)), (21, (σ.2.2.1 21))] []) s.heap [] := GW_self [1541, 1542, 1540, 1539, 1286, 1283, 1285, 1284] [] [26, 27, 25, 22, 23, 21] [] hG
  unfold LN_table at h
  have n9 : ∀ (v_likeness_clashFrom : Int32) (v_likeness_clashTo : Int32) (v_likeness_holds : Int32) (v_likeness_ready : Int32) (v_ways_far : Int32) (v_ways_ready : Int32) (v_ways_size : Int32) (v_ways_whole : Int32) (v_likeness_a : Nat → Int32) (v_likeness_b : Nat → Int32) (v_likeness_c : Nat → Int32) (v_ways_layers : Nat → Int32) (v_ways_reached : Nat → Int32) (v_ways_steps : Nat → Int32) (H : Heap) (locs : List Loc) (ls : Array Slot), lv_has ls 3 [] → GW g s (mkS σ [(1541, v_likeness_clashFrom), (1542, v_likeness_clashTo), (1540, v_likeness_holds), (1539, v_likeness_ready), (1286, v_ways_far), (1283, v_ways_ready), (1285, v_ways_size), (1284, v_ways_whole)] [] [(26, v_likeness_a), (27, v_likeness_b), (25, v_likeness_c), (22, v_ways_layers), (23, v_ways_reached), (21, v_ways_steps)] []) H locs → LN_table_n9 v_likeness_clashFrom v_likeness_clashTo v_likeness_holds v_likeness_ready v_ways_far v_ways_ready v_ways_size v_ways_whole v_likeness_a v_likeness_b v_likeness_c v_ways_layers v_ways_reached v_ways_steps = some (r, w_likeness_clashFrom, w_likeness_clashTo, w_likeness_holds, w_likeness_ready, w_ways_far, w_ways_ready, w_ways_size, w_ways_whole, w_likeness_a, w_likeness_b, w_likeness_c, w_ways_layers, w_ways_reached, w_ways_steps) → Wg p l e 6 134 s m args below meth c g (some (.int r)) (mkS σ [(1541, w_likeness_clashFrom), (1542, w_likeness_clashTo), (1540, w_likeness_holds), (1539, w_likeness_ready), (1286, w_ways_far), (1283, w_ways_ready), (1285, w_ways_size), (1284, w_ways_whole)] [] [(26, w_likeness_a), (27, w_likeness_b), (25, w_likeness_c), (22, w_ways_layers), (23, w_ways_reached), (21, w_ways_steps)] []) H locs (F0 m 9 ls []) := by
    intro v_likeness_clashFrom v_likeness_clashTo v_likeness_holds v_likeness_ready v_ways_far v_ways_ready v_ways_size v_ways_whole v_likeness_a v_likeness_b v_likeness_c v_ways_layers v_ways_reached v_ways_steps H locs ls hl hG h
    unfold LN_table_n9 at h
    refine lv_iconst (v := (-1 : Int32)) hx hb dX8_table_9 (by decide) ?_
    cases h
    exact gx_iret hx hb hr hlocks hG dX8_table_10
  have n36 : ∀ (v_likeness_clashFrom : Int32) (v_likeness_clashTo : Int32) (v_likeness_holds : Int32) (v_likeness_ready : Int32) (v_ways_far : Int32) (v_ways_ready : Int32) (v_ways_size : Int32) (v_ways_whole : Int32) (v_likeness_a : Nat → Int32) (v_likeness_b : Nat → Int32) (v_likeness_c : Nat → Int32) (v_ways_layers : Nat → Int32) (v_ways_reached : Nat → Int32) (v_ways_steps : Nat → Int32) (H : Heap) (locs : List Loc) (ls : Array Slot), lv_has ls 3 [] → GW g s (mkS σ [(1541, v_likeness_clashFrom), (1542, v_likeness_clashTo), (1540, v_likeness_holds), (1539, v_likeness_ready), (1286, v_ways_far), (1283, v_ways_ready), (1285, v_ways_size), (1284, v_ways_whole)] [] [(26, v_likeness_a), (27, v_likeness_b), (25, v_likeness_c), (22, v_ways_layers), (23, v_ways_reached), (21, v_ways_steps)] []) H locs → LN_table_n36 v_likeness_clashFrom v_likeness_clashTo v_likeness_holds v_likeness_ready v_ways_far v_ways_ready v_ways_size v_ways_whole v_likeness_a v_likeness_b v_likeness_c v_ways_layers v_ways_reached v_ways_steps = some (r, w_likeness_clashFrom, w_likeness_clashTo, w_likeness_holds, w_likeness_ready, w_ways_far, w_ways_ready, w_ways_size, w_ways_whole, w_likeness_a, w_likeness_b, w_likeness_c, w_ways_layers, w_ways_reached, w_ways_steps) → Wg p l e 6 134 s m args below meth c g (some (.int r)) (mkS σ [(1541, w_likeness_clashFrom), (1542, w_likeness_clashTo), (1540, w_likeness_holds), (1539, w_likeness_ready), (1286, w_ways_far), (1283, w_ways_ready), (1285, w_ways_size), (1284, w_ways_whole)] [] [(26, w_likeness_a), (27, w_likeness_b), (25, w_likeness_c), (22, w_ways_layers), (23, w_ways_reached), (21, w_ways_steps)] []) H locs (F0 m 36 ls []) := by
    intro v_likeness_clashFrom v_likeness_clashTo v_likeness_holds v_likeness_ready v_ways_far v_ways_ready v_ways_size v_ways_whole v_likeness_a v_likeness_b v_likeness_c v_ways_layers v_ways_reached v_ways_steps H locs ls hl hG h
    unfold LN_table_n36 at h
    refine lv_iconst (v := (-1 : Int32)) hx hb dX8_table_36 (by decide) ?_
    cases h
    exact gx_iret hx hb hr hlocks hG dX8_table_37
  refine lv_iload_n hx hb dX8_table_0 rfl (lv_at hl 2 rfl) ?_
  refine lv_if_lt (tgt := 9) hx hb dX8_table_1 (by decide) (fun c1 => ?_) (fun c1 => ?_)
  · have h := ite_t c1 h
    exact n9 (σ.1 1541) (σ.1 1542) (σ.1 1540) (σ.1 1539) (σ.1 1286) (σ.1 1283) (σ.1 1285) (σ.1 1284) (σ.2.2.1 26) (σ.2.2.1 27) (σ.2.2.1 25) (σ.2.2.1 22) (σ.2.2.1 23) (σ.2.2.1 21) _ _ _ (lv_sub hl [] rfl) hG h
  · have h := ite_f c1 h
    refine lv_iload_n hx hb dX8_table_4 rfl (lv_at hl 2 rfl) ?_
    refine lv_iconst (v := (3 : Int32)) hx hb dX8_table_5 (by decide) ?_
    refine lv_icmp_le (tgt := 11) hx hb dX8_table_6 (by decide) (fun c2 => ?_) (fun c2 => ?_)
    · have h := ite_t c2 h
      refine lv_aload_n hx hb dX8_table_11 rfl (lv_at hl 0 rfl) ?_
      obtain ⟨z3, hc4, h⟩ := bnd_some h
      refine gx_cV (σ' := (mkS σ [(1541, z3.2.1), (1542, z3.2.2.1), (1540, z3.2.2.2.1), (1539, z3.2.2.2.2.1), (1286, z3.2.2.2.2.2.1), (1283, z3.2.2.2.2.2.2.1), (1285, z3.2.2.2.2.2.2.2.1), (1284, z3.2.2.2.2.2.2.2.2.1)] [] [(26, z3.2.2.2.2.2.2.2.2.2.1), (27, z3.2.2.2.2.2.2.2.2.2.2.1), (25, z3.2.2.2.2.2.2.2.2.2.2.2.1), (22, z3.2.2.2.2.2.2.2.2.2.2.2.2.1), (23, z3.2.2.2.2.2.2.2.2.2.2.2.2.2.1), (21, z3.2.2.2.2.2.2.2.2.2.2.2.2.2.2)] [])) (r := (some (.int z3.1))) (rest := []) (As := []) hS9 (c_LN_isLike l g (mkS σ [(1541, (σ.1 1541)), (1542, (σ.1 1542)), (1540, (σ.1 1540)), (1539, (σ.1 1539)), (1286, (σ.1 1286)), (1283, (σ.1 1283)), (1285, (σ.1 1285)), (1284, (σ.1 1284))] [] [(26, (σ.2.2.1 26)), (27, (σ.2.2.1 27)), (25, (σ.2.2.1 25)), (22, (σ.2.2.1 22)), (23, (σ.2.2.1 23)), (21, (σ.2.2.1 21))] []) z3.1 z3.2.1 z3.2.2.1 z3.2.2.2.1 z3.2.2.2.2.1 z3.2.2.2.2.2.1 z3.2.2.2.2.2.2.1 z3.2.2.2.2.2.2.2.1 z3.2.2.2.2.2.2.2.2.1 z3.2.2.2.2.2.2.2.2.2.1 z3.2.2.2.2.2.2.2.2.2.2.1 z3.2.2.2.2.2.2.2.2.2.2.2.1 z3.2.2.2.2.2.2.2.2.2.2.2.2.1 z3.2.2.2.2.2.2.2.2.2.2.2.2.2.1 z3.2.2.2.2.2.2.2.2.2.2.2.2.2.2 hc4) (mk_mk rfl rfl rfl rfl) (cwV 0 hts (gz_V mw_3_82 mw_3_84 ms_1_10 mw_1_1 mw_3_85) rfl rfl rfl hdV_X8_isLike ⟨Nat.le_of_ble_eq_true rfl, Nat.le_of_ble_eq_true rfl⟩) hK hG (ga_0 g _) rfl rfl rfl hl.1 rfl (Nat.le_of_ble_eq_true rfl) dX8_table_12 (fun H locs hG => ?_)
      refine W.eq (g2 := F0 m 15 ls [.int z3.1]) rfl ?_
      refine lv_if_ne (tgt := 21) hx hb dX8_table_15 (by decide) (fun c5 => ?_) (fun c5 => ?_)
      · have h := ite_f c5 h
        refine lv_iload_n hx hb dX8_table_21 rfl (lv_at hl 1 rfl) ?_
        refine lv_if_lt (tgt := 36) hx hb dX8_table_22 (by decide) (fun c6 => ?_) (fun c6 => ?_)
        · have h := ite_t c6 h
          exact n36 z3.2.1 z3.2.2.1 z3.2.2.2.1 z3.2.2.2.2.1 z3.2.2.2.2.2.1 z3.2.2.2.2.2.2.1 z3.2.2.2.2.2.2.2.1 z3.2.2.2.2.2.2.2.2.1 z3.2.2.2.2.2.2.2.2.2.1 z3.2.2.2.2.2.2.2.2.2.2.1 z3.2.2.2.2.2.2.2.2.2.2.2.1 z3.2.2.2.2.2.2.2.2.2.2.2.2.1 z3.2.2.2.2.2.2.2.2.2.2.2.2.2.1 z3.2.2.2.2.2.2.2.2.2.2.2.2.2.2 _ _ _ (lv_sub hl [] rfl) hG h
        · have h := ite_f c6 h
          refine lv_iload_n hx hb dX8_table_25 rfl (lv_at hl 1 rfl) ?_
          refine lv_aload_n hx hb dX8_table_26 rfl (lv_at hl 0 rfl) ?_
          refine gx_get (v := .ref (g.2.1 20)) (C := RX8) (T := TX8) (N := 13) hx hb hts mc_X8 hown hK hG (ga_0 g _) rfl 7 (by decide) hw0 rfl rfl dX8_table_27 ?_
          refine gx_get (v := .int z3.2.2.2.2.2.1) (C := RX7) (T := TX7) (N := 7) hx hb hts mc_X7 hown hK hG (ga_20 g _) rfl 6 (by decide) hw1 rfl rfl dX8_table_30 ?_
          refine lv_icmp_le (tgt := 38) hx hb dX8_table_33 (by decide) (fun c7 => ?_) (fun c7 => ?_)
          · have h := ite_t c7 h
            refine lv_iload_n hx hb dX8_table_38 rfl (lv_at hl 2 rfl) ?_
            by_cases c8 : x2 = (0 : Int32)
            · have h := ite_t c8 h
              refine lv_tableIn (off := 25) (tgt := 64) hx hb dX8_table_39 (by rw [c8]; decide) (by rw [c8]; decide) (by rw [c8]; rfl) (by decide) ?_
              refine lv_aload_n hx hb dX8_table_64 rfl (lv_at hl 0 rfl) ?_
              refine gx_get (v := .ref (g.2.1 24)) (C := RX8) (T := TX8) (N := 13) hx hb hts mc_X8 hown hK hG (ga_0 g _) rfl 8 (by decide) hw2 rfl rfl dX8_table_65 ?_
              refine gx_get (v := .ref (g.2.1 25)) (C := RX0) (T := TX0) (N := 7) hx hb hts mc_X0 hown hK hG (ga_24 g _) rfl 0 (by decide) hw3 rfl rfl dX8_table_68 ?_
              refine lv_iload_n hx hb dX8_table_71 rfl (lv_at hl 1 rfl) ?_
              obtain ⟨hg9, h⟩ := gd_some h
              refine gx_iald (f := z3.2.2.2.2.2.2.2.2.2.2.2.1) hx hb hK hG (ga_25 g _) hg9 dX8_table_72 ?_
              cases h
              exact gx_iret hx hb hr hlocks hG dX8_table_73
            · have h := ite_f c8 h
              by_cases c10 : x2 = (1 : Int32)
              · have h := ite_t c10 h
                refine lv_tableIn (off := 35) (tgt := 74) hx hb dX8_table_39 (by rw [c10]; decide) (by rw [c10]; decide) (by rw [c10]; rfl) (by decide) ?_
                refine lv_aload_n hx hb dX8_table_74 rfl (lv_at hl 0 rfl) ?_
                refine gx_get (v := .ref (g.2.1 24)) (C := RX8) (T := TX8) (N := 13) hx hb hts mc_X8 hown hK hG (ga_0 g _) rfl 8 (by decide) hw2 rfl rfl dX8_table_75 ?_
                refine gx_get (v := .ref (g.2.1 26)) (C := RX0) (T := TX0) (N := 7) hx hb hts mc_X0 hown hK hG (ga_24 g _) rfl 1 (by decide) hw4 rfl rfl dX8_table_78 ?_
                refine lv_iload_n hx hb dX8_table_81 rfl (lv_at hl 1 rfl) ?_
                obtain ⟨hg11, h⟩ := gd_some h
                refine gx_iald (f := z3.2.2.2.2.2.2.2.2.2.1) hx hb hK hG (ga_26 g _) hg11 dX8_table_82 ?_
                cases h
                exact gx_iret hx hb hr hlocks hG dX8_table_83
              · have h := ite_f c10 h
                by_cases c12 : x2 = (2 : Int32)
                · have h := ite_t c12 h
                  refine lv_tableIn (off := 45) (tgt := 84) hx hb dX8_table_39 (by rw [c12]; decide) (by rw [c12]; decide) (by rw [c12]; rfl) (by decide) ?_
                  refine lv_aload_n hx hb dX8_table_84 rfl (lv_at hl 0 rfl) ?_
                  refine gx_get (v := .ref (g.2.1 24)) (C := RX8) (T := TX8) (N := 13) hx hb hts mc_X8 hown hK hG (ga_0 g _) rfl 8 (by decide) hw2 rfl rfl dX8_table_85 ?_
                  refine gx_get (v := .ref (g.2.1 27)) (C := RX0) (T := TX0) (N := 7) hx hb hts mc_X0 hown hK hG (ga_24 g _) rfl 2 (by decide) hw5 rfl rfl dX8_table_88 ?_
                  refine lv_iload_n hx hb dX8_table_91 rfl (lv_at hl 1 rfl) ?_
                  obtain ⟨hg13, h⟩ := gd_some h
                  refine gx_iald (f := z3.2.2.2.2.2.2.2.2.2.2.1) hx hb hK hG (ga_27 g _) hg13 dX8_table_92 ?_
                  cases h
                  exact gx_iret hx hb hr hlocks hG dX8_table_93
                · have h := ite_f c12 h
                  refine lv_tableOut (tgt := 94) hx hb dX8_table_39 (sw_out (fun q h1 h2 => ?_)) (by decide) ?_
                  · rcases (show q = 0 ∨ q = 1 ∨ q = 2 by omega) with rfl | rfl | rfl
                    · exact lv_neT c8 (by decide)
                    · exact lv_neT c10 (by decide)
                    · exact lv_neT c12 (by decide)
                  refine lv_aload_n hx hb dX8_table_94 rfl (lv_at hl 0 rfl) ?_
                  refine gx_get (v := .ref (g.2.1 20)) (C := RX8) (T := TX8) (N := 13) hx hb hts mc_X8 hown hK hG (ga_0 g _) rfl 7 (by decide) hw0 rfl rfl dX8_table_95 ?_
                  refine lv_iconst (v := (0 : Int32)) hx hb dX8_table_98 (by decide) ?_
                  refine lv_iload_n hx hb dX8_table_99 rfl (lv_at hl 1 rfl) ?_
                  obtain ⟨z14, hc15, h⟩ := bnd_some h
                  refine gx_cV (σ' := (mkS σ [(1541, z3.2.1), (1542, z3.2.2.1), (1540, z3.2.2.2.1), (1539, z3.2.2.2.2.1), (1286, z3.2.2.2.2.2.1), (1283, z3.2.2.2.2.2.2.1), (1285, z3.2.2.2.2.2.2.2.1), (1284, z3.2.2.2.2.2.2.2.2.1)] [] [(26, z3.2.2.2.2.2.2.2.2.2.1), (27, z3.2.2.2.2.2.2.2.2.2.2.1), (25, z3.2.2.2.2.2.2.2.2.2.2.2.1), (22, z3.2.2.2.2.2.2.2.2.2.2.2.2.1), (23, z3.2.2.2.2.2.2.2.2.2.2.2.2.2.1), (21, z3.2.2.2.2.2.2.2.2.2.2.2.2.2.2)] [])) (r := (some (.int z14))) (rest := []) (As := [.int (0 : Int32), .int x1]) hS9 (c_Wy_postsAt l g (mkS σ [(1541, z3.2.1), (1542, z3.2.2.1), (1540, z3.2.2.2.1), (1539, z3.2.2.2.2.1), (1286, z3.2.2.2.2.2.1), (1283, z3.2.2.2.2.2.2.1), (1285, z3.2.2.2.2.2.2.2.1), (1284, z3.2.2.2.2.2.2.2.2.1)] [] [(26, z3.2.2.2.2.2.2.2.2.2.1), (27, z3.2.2.2.2.2.2.2.2.2.2.1), (25, z3.2.2.2.2.2.2.2.2.2.2.2.1), (22, z3.2.2.2.2.2.2.2.2.2.2.2.2.1), (23, z3.2.2.2.2.2.2.2.2.2.2.2.2.2.1), (21, z3.2.2.2.2.2.2.2.2.2.2.2.2.2.2)] []) (0 : Int32) x1 z14 hc15) rfl (cwV 2 hts (gz_V mw_3_106 mw_3_62 mw_3_63 mw_1_5 mw_3_64) rfl rfl rfl hdV_X7_postsAt ⟨Nat.le_of_ble_eq_true rfl, Nat.le_of_ble_eq_true rfl⟩) hK hG (ga_20 g _) rfl rfl rfl hl.1 rfl (Nat.le_of_ble_eq_true rfl) dX8_table_100 (fun H locs hG => ?_)
                  refine W.eq (g2 := F0 m 103 ls [.int z14]) rfl ?_
                  obtain ⟨z16, hc17, h⟩ := bnd_some h
                  refine gx_cS (σ' := (mkS σ [(1541, z3.2.1), (1542, z3.2.2.1), (1540, z3.2.2.2.1), (1539, z3.2.2.2.2.1), (1286, z3.2.2.2.2.2.1), (1283, z3.2.2.2.2.2.2.1), (1285, z3.2.2.2.2.2.2.2.1), (1284, z3.2.2.2.2.2.2.2.2.1)] [] [(26, z3.2.2.2.2.2.2.2.2.2.1), (27, z3.2.2.2.2.2.2.2.2.2.2.1), (25, z3.2.2.2.2.2.2.2.2.2.2.2.1), (22, z3.2.2.2.2.2.2.2.2.2.2.2.2.1), (23, z3.2.2.2.2.2.2.2.2.2.2.2.2.2.1), (21, z3.2.2.2.2.2.2.2.2.2.2.2.2.2.2)] [])) (r := (some (.int z16))) (rest := []) (As := [.int z14]) hS9 (c_JI_bitCount l g (mkS σ [(1541, z3.2.1), (1542, z3.2.2.1), (1540, z3.2.2.2.1), (1539, z3.2.2.2.2.1), (1286, z3.2.2.2.2.2.1), (1283, z3.2.2.2.2.2.2.1), (1285, z3.2.2.2.2.2.2.2.1), (1284, z3.2.2.2.2.2.2.2.2.1)] [] [(26, z3.2.2.2.2.2.2.2.2.2.1), (27, z3.2.2.2.2.2.2.2.2.2.2.1), (25, z3.2.2.2.2.2.2.2.2.2.2.2.1), (22, z3.2.2.2.2.2.2.2.2.2.2.2.2.1), (23, z3.2.2.2.2.2.2.2.2.2.2.2.2.2.1), (21, z3.2.2.2.2.2.2.2.2.2.2.2.2.2.2)] []) z14 z16 hc17) rfl (va_cwS 1 hts (gz_S mw_3_48 mw_2_169 mw_1_12 mw_2_170) rfl rfl rfl hdS_J6_bitCount_0f7a4 ⟨Nat.le_of_ble_eq_true rfl, Nat.le_of_ble_eq_true rfl⟩) hK hG rfl hl.1 rfl (Nat.le_of_ble_eq_true rfl) dX8_table_103 (fun H locs hG => ?_)
                  refine W.eq (g2 := F0 m 106 ls [.int z16]) rfl ?_
                  cases h
                  exact gx_iret hx hb hr hlocks hG dX8_table_106
          · have h := ite_f c7 h
            exact n36 z3.2.1 z3.2.2.1 z3.2.2.2.1 z3.2.2.2.2.1 z3.2.2.2.2.2.1 z3.2.2.2.2.2.2.1 z3.2.2.2.2.2.2.2.1 z3.2.2.2.2.2.2.2.2.1 z3.2.2.2.2.2.2.2.2.2.1 z3.2.2.2.2.2.2.2.2.2.2.1 z3.2.2.2.2.2.2.2.2.2.2.2.1 z3.2.2.2.2.2.2.2.2.2.2.2.2.1 z3.2.2.2.2.2.2.2.2.2.2.2.2.2.1 z3.2.2.2.2.2.2.2.2.2.2.2.2.2.2 _ _ _ (lv_sub hl [] rfl) hG h
      · have h := ite_t c5 h
        refine lv_bipush (v := (-5 : Int32)) hx hb dX8_table_18 (by decide) ?_
        cases h
        exact gx_iret hx hb hr hlocks hG dX8_table_20
    · have h := ite_f c2 h
      exact n9 (σ.1 1541) (σ.1 1542) (σ.1 1540) (σ.1 1539) (σ.1 1286) (σ.1 1283) (σ.1 1285) (σ.1 1284) (σ.2.2.1 26) (σ.2.2.1 27) (σ.2.2.1 25) (σ.2.2.1 22) (σ.2.2.1 23) (σ.2.2.1 21) _ _ _ (lv_sub hl [] rfl) hG h

set_option maxHeartbeats 4000000 in
set_option maxRecDepth 100000 in
theorem c_Lk_isAtMost (l : Launch) (g : GC) (σ : St) (x1 : Int32) (x2 : Int32) (r : Int32) (h : Lk_isAtMost x1 x2 (σ.2.2.1 27) (σ.2.2.1 25) = some r) : Cn l g yX0_isAtMost (Cond.code yX0_isAtMost cX0_isAtMost 4 (some .boolean) :: wG) 0 0 [.ref (g.2.1 24), .int x1, .int x2] σ (some (.int r)) σ := by
  unfold Cn
  refine Met.ofW (cc := cX0_isAtMost) (maxL := 4) (ret := (some .boolean)) (by decide) rfl ?_
  intro p e s m args below meth c s₁ B hml hv
  obtain ⟨hargs, hP0, hK⟩ := hv
  have hx := B.exec
  have hb := B.bytes
  have hr := B.returns
  have hts : ∀ w ∈ wG, w.before args s = true := fun w h => atoms_spec (ws := (Cond.code yX0_isAtMost cX0_isAtMost 4 (some .boolean) :: wG)) B.pre w (List.mem_cons_of_mem _ h)
  have hown : s.vm.findClass RX0 = some m.cls := findClass_of_methodNamed B.named
  have hlocks := B.notSynchronized
  have hw0 := hts _ mw_1_119
  have hw1 := hts _ mw_1_115
  have hf9 : entryFrame m args 4 = _ := (congrArg (fun a => entryFrame m a 4) hargs).trans (lg_entry_eq m [.ref (g.2.1 24), .int x1, .int x2] 4)
  show Wg p l e 0 0 s m args below meth c g (some (.int r)) σ s.heap [] (entryFrame m args 4)
  rw [hf9]
  have hl := lv_entry ([.ref (g.2.1 24), .int x1, .int x2]) (n := 4) (Nat.le_of_ble_eq_true rfl)
  generalize (lg_sl ([.ref (g.2.1 24), .int x1, .int x2]) ++ List.replicate (4 - (lg_sl ([.ref (g.2.1 24), .int x1, .int x2])).length) Slot.unset).toArray = ls at hl ⊢
  have hl : lv_has ls 4 [(0, .ref (g.2.1 24)), (1, .int x1), (2, .int x2)] := hl
  have hG : GW g s σ s.heap [] := ⟨hP0, va_S.rf⟩
  unfold Lk_isAtMost at h
  have n27 : ∀  (H : Heap) (locs : List Loc) (ls : Array Slot), lv_has ls 4 [] → GW g s σ H locs → Lk_isAtMost_n27 = some r → Wg p l e 0 0 s m args below meth c g (some (.int r)) σ H locs (F0 m 27 ls []) := by
    intro H locs ls hl hG h
    unfold Lk_isAtMost_n27 at h
    refine lv_iconst (v := (0 : Int32)) hx hb dX0_isAtMost_27 (by decide) ?_
    cases h
    exact gx_zret hx hb hr hlocks (by decide) hG dX0_isAtMost_28
  have n35 : ∀  (H : Heap) (locs : List Loc) (ls : Array Slot), lv_has ls 4 [] → GW g s σ H locs → Lk_isAtMost_n35 = some r → Wg p l e 0 0 s m args below meth c g (some (.int r)) σ H locs (F0 m 35 ls []) := by
    intro H locs ls hl hG h
    unfold Lk_isAtMost_n35 at h
    refine lv_iconst (v := (1 : Int32)) hx hb dX0_isAtMost_35 (by decide) ?_
    cases h
    exact gx_zret hx hb hr hlocks (by decide) hG dX0_isAtMost_36
  have n2 : ∀ (k2 : Int32 → Int32 → Int32 → Option (Int32)) (hk2 : ∀ (x1 : Int32) (x2 : Int32) (x3 : Int32) (H : Heap) (locs : List Loc) (ls : Array Slot), lv_has ls 4 [(0, .ref (g.2.1 24)), (1, .int x1), (2, .int x2), (3, .int x3)] → GW g s σ H locs → k2 x1 x2 x3 = some r → Wg p l e 0 0 s m args below meth c g (some (.int r)) σ H locs (F0 m 2 ls [])) (x1 : Int32) (x2 : Int32) (x3 : Int32) (H : Heap) (locs : List Loc) (ls : Array Slot), lv_has ls 4 [(0, .ref (g.2.1 24)), (1, .int x1), (2, .int x2), (3, .int x3)] → GW g s σ H locs → Lk_isAtMost_n2 k2 (σ.2.2.1 27) (σ.2.2.1 25) x1 x2 x3 = some r → Wg p l e 0 0 s m args below meth c g (some (.int r)) σ H locs (F0 m 2 ls []) := by
    intro k2 hk2 x1 x2 x3 H locs ls hl hG h
    unfold Lk_isAtMost_n2 at h
    refine lv_iload_n hx hb dX0_isAtMost_2 rfl (lv_at hl 3 rfl) ?_
    refine lv_iload_n hx hb dX0_isAtMost_3 rfl (lv_at hl 1 rfl) ?_
    refine lv_icmp_gt (tgt := 35) hx hb dX0_isAtMost_4 (by decide) (fun c1 => ?_) (fun c1 => ?_)
    · have h := ite_t c1 h
      exact n35 _ _ _ (lv_sub hl [] rfl) hG h
    · have h := ite_f c1 h
      refine lv_aload_n hx hb dX0_isAtMost_7 rfl (lv_at hl 0 rfl) ?_
      refine gx_get (v := .ref (g.2.1 27)) (C := RX0) (T := TX0) (N := 7) hx hb hts mc_X0 hown hK hG (ga_24 g _) rfl 2 (by decide) hw0 rfl rfl dX0_isAtMost_8 ?_
      refine lv_iload_n hx hb dX0_isAtMost_11 rfl (lv_at hl 3 rfl) ?_
      obtain ⟨hg2, h⟩ := gd_some h
      refine gx_iald (f := (σ.2.2.1 27)) hx hb hK hG (ga_27 g _) hg2 dX0_isAtMost_12 ?_
      refine lv_iload_n hx hb dX0_isAtMost_13 rfl (lv_at hl 2 rfl) ?_
      refine lv_icmp_gt (tgt := 27) hx hb dX0_isAtMost_14 (by decide) (fun c3 => ?_) (fun c3 => ?_)
      · have h := ite_t c3 h
        exact n27 _ _ _ (lv_sub hl [] rfl) hG h
      · have h := ite_f c3 h
        refine lv_aload_n hx hb dX0_isAtMost_17 rfl (lv_at hl 0 rfl) ?_
        refine gx_get (v := .ref (g.2.1 25)) (C := RX0) (T := TX0) (N := 7) hx hb hts mc_X0 hown hK hG (ga_24 g _) rfl 0 (by decide) hw1 rfl rfl dX0_isAtMost_18 ?_
        refine lv_iload_n hx hb dX0_isAtMost_21 rfl (lv_at hl 3 rfl) ?_
        refine gx_iald (f := (σ.2.2.1 25)) hx hb hK hG (ga_25 g _) hg2 dX0_isAtMost_22 ?_
        refine lv_iload_n hx hb dX0_isAtMost_23 rfl (lv_at hl 2 rfl) ?_
        refine lv_icmp_le (tgt := 29) hx hb dX0_isAtMost_24 (by decide) (fun c4 => ?_) (fun c4 => ?_)
        · have h := ite_t c4 h
          refine lv_iinc (v := (x3 + (1 : Int32))) (lv' := [(3, .int (x3 + (1 : Int32))), (0, .ref (g.2.1 24)), (1, .int x1), (2, .int x2)]) hx hb dX0_isAtMost_29 hl (k := 3) rfl (congrArg (fun z => x3 + z) (by decide)) (Nat.le_of_ble_eq_true rfl) rfl (fun ls hl => ?_)
          refine lv_goto (tgt := 2) hx hb dX0_isAtMost_32 (by decide) ?_
          exact hk2 x1 x2 (x3 + (1 : Int32)) _ _ _ (lv_sub hl [1, 2, 3, 0] rfl) hG h
        · have h := ite_f c4 h
          exact n27 _ _ _ (lv_sub hl [] rfl) hG h
  have l2 : ∀  (F : Nat) (x1 : Int32) (x2 : Int32) (x3 : Int32) (H : Heap) (locs : List Loc) (ls : Array Slot), lv_has ls 4 [(0, .ref (g.2.1 24)), (1, .int x1), (2, .int x2), (3, .int x3)] → GW g s σ H locs → Lk_isAtMost_l2 (σ.2.2.1 27) (σ.2.2.1 25) F x1 x2 x3 = some r → Wg p l e 0 0 s m args below meth c g (some (.int r)) σ H locs (F0 m 2 ls []) := by
    intro F
    induction F with
    | zero => intro x1 x2 x3 H locs ls hl hG h; exact no_some h
    | succ F ih => intro x1 x2 x3 H locs ls hl hG h; exact n2 (fun x1 x2 x3 => Lk_isAtMost_l2 (σ.2.2.1 27) (σ.2.2.1 25) F x1 x2 x3) ih x1 x2 x3 H locs ls hl hG h
  refine lv_iconst (v := (0 : Int32)) hx hb dX0_isAtMost_0 (by decide) ?_
  refine lv_istore_n (lv' := [(3, .int (0 : Int32)), (0, .ref (g.2.1 24)), (1, .int x1), (2, .int x2)]) hx hb dX0_isAtMost_1 rfl hl (Nat.le_of_ble_eq_true rfl) rfl (fun ls hl => ?_)
  exact l2 FUEL x1 x2 (0 : Int32) _ _ _ (lv_sub hl [1, 2, 3, 0] rfl) hG h

set_option maxHeartbeats 4000000 in
set_option maxRecDepth 100000 in
theorem c_JA_fillI_29 (l : Launch) (g : GC) (σ : St) (x1 : Int32) (w_r0 : Nat → Int32) (h : JA_fillI x1 6 (σ.2.2.1 29) = some w_r0) : Cn l g yJ7_fill_53178 (Cond.code yJ7_fill_53178 cJ7_fill_53178 4 none :: wG) 0 0 [.ref (g.2.1 29), .int x1] σ none (mkS σ [] [] [(29, w_r0)] []) := by
  unfold Cn
  refine Met.ofW (cc := cJ7_fill_53178) (maxL := 4) (ret := none) (by decide) rfl ?_
  intro p e s m args below meth c s₁ B hml hv
  obtain ⟨hargs, hP0, hK⟩ := hv
  have hx := B.exec
  have hb := B.bytes
  have hr := B.returns
  have hts : ∀ w ∈ wG, w.before args s = true := fun w h => atoms_spec (ws := (Cond.code yJ7_fill_53178 cJ7_fill_53178 4 none :: wG)) B.pre w (List.mem_cons_of_mem _ h)
  have hown : s.vm.findClass RJ7 = some m.cls := findClass_of_methodNamed B.named
  have hlocks := B.notSynchronized
  have hf9 : entryFrame m args 4 = _ := (congrArg (fun a => entryFrame m a 4) hargs).trans (lg_entry_eq m [.ref (g.2.1 29), .int x1] 4)
  show Wg p l e 0 0 s m args below meth c g none (mkS σ [] [] [(29, w_r0)] []) s.heap [] (entryFrame m args 4)
  rw [hf9]
  have hl := lv_entry ([.ref (g.2.1 29), .int x1]) (n := 4) (Nat.le_of_ble_eq_true rfl)
  generalize (lg_sl ([.ref (g.2.1 29), .int x1]) ++ List.replicate (4 - (lg_sl ([.ref (g.2.1 29), .int x1])).length) Slot.unset).toArray = ls at hl ⊢
  have hl : lv_has ls 4 [(0, .ref (g.2.1 29)), (1, .int x1)] := hl
  have hG : GW g s σ s.heap [] := ⟨hP0, va_S.rf⟩
  have hG : GW g s (mkS σ [] [] [(29, (σ.2.2.1 29))] []) s.heap [] := GW_self [] [] [29] [] hG
  unfold JA_fillI at h
  have n20 : ∀ (v_r0 : Nat → Int32) (H : Heap) (locs : List Loc) (ls : Array Slot), lv_has ls 4 [] → GW g s (mkS σ [] [] [(29, v_r0)] []) H locs → JA_fillI_n20 6 v_r0 = some w_r0 → Wg p l e 0 0 s m args below meth c g none (mkS σ [] [] [(29, w_r0)] []) H locs (F0 m 20 ls []) := by
    intro v_r0 H locs ls hl hG h
    unfold JA_fillI_n20 at h
    cases h
    exact gx_vret hx hb hr hlocks hG dJ7_fill_53178_20
  have n5 : ∀ (k5 : Int32 → Int32 → Int32 → (Nat → Int32) → Option ((Nat → Int32))) (hk5 : ∀ (x1 : Int32) (x2 : Int32) (x3 : Int32) (v_r0 : Nat → Int32) (H : Heap) (locs : List Loc) (ls : Array Slot), lv_has ls 4 [(0, .ref (g.2.1 29)), (1, .int x1), (2, .int x2), (3, .int x3)] → GW g s (mkS σ [] [] [(29, v_r0)] []) H locs → k5 x1 x2 x3 v_r0 = some w_r0 → Wg p l e 0 0 s m args below meth c g none (mkS σ [] [] [(29, w_r0)] []) H locs (F0 m 5 ls [])) (x1 : Int32) (x2 : Int32) (x3 : Int32) (v_r0 : Nat → Int32) (H : Heap) (locs : List Loc) (ls : Array Slot), lv_has ls 4 [(0, .ref (g.2.1 29)), (1, .int x1), (2, .int x2), (3, .int x3)] → GW g s (mkS σ [] [] [(29, v_r0)] []) H locs → JA_fillI_n5 k5 6 x1 x2 x3 v_r0 = some w_r0 → Wg p l e 0 0 s m args below meth c g none (mkS σ [] [] [(29, w_r0)] []) H locs (F0 m 5 ls []) := by
    intro k5 hk5 x1 x2 x3 v_r0 H locs ls hl hG h
    unfold JA_fillI_n5 at h
    refine lv_iload_n hx hb dJ7_fill_53178_5 rfl (lv_at hl 2 rfl) ?_
    refine lv_iload_n hx hb dJ7_fill_53178_6 rfl (lv_at hl 3 rfl) ?_
    refine lv_icmp_ge (tgt := 20) hx hb dJ7_fill_53178_7 (by decide) (fun c1 => ?_) (fun c1 => ?_)
    · have h := ite_t c1 h
      exact n20 v_r0 _ _ _ (lv_sub hl [] rfl) hG h
    · have h := ite_f c1 h
      refine lv_aload_n hx hb dJ7_fill_53178_10 rfl (lv_at hl 0 rfl) ?_
      refine lv_iload_n hx hb dJ7_fill_53178_11 rfl (lv_at hl 2 rfl) ?_
      refine lv_iload_n hx hb dJ7_fill_53178_12 rfl (lv_at hl 1 rfl) ?_
      obtain ⟨hg2, h⟩ := gd_some h
      refine gx_iast (σ' := (mkS σ [] [] [(29, (upd v_r0 (x2.toNatClampNeg) x1))] [])) (f := v_r0) hx hb hK hG (ga_29 g _) hg2 ((gs_29 g _ _).trans (congrArg (g_cells g) (mk_c 0 rfl rfl))) dJ7_fill_53178_13 (fun H locs hG => ?_)
      refine lv_iinc (v := (x2 + (1 : Int32))) (lv' := [(2, .int (x2 + (1 : Int32))), (0, .ref (g.2.1 29)), (1, .int x1), (3, .int x3)]) hx hb dJ7_fill_53178_14 hl (k := 2) rfl (congrArg (fun z => x2 + z) (by decide)) (Nat.le_of_ble_eq_true rfl) rfl (fun ls hl => ?_)
      refine lv_goto (tgt := 5) hx hb dJ7_fill_53178_17 (by decide) ?_
      exact hk5 x1 (x2 + (1 : Int32)) x3 (upd v_r0 (x2.toNatClampNeg) x1) _ _ _ (lv_sub hl [1, 2, 0, 3] rfl) hG h
  have l5 : ∀  (F : Nat) (x1 : Int32) (x2 : Int32) (x3 : Int32) (v_r0 : Nat → Int32) (H : Heap) (locs : List Loc) (ls : Array Slot), lv_has ls 4 [(0, .ref (g.2.1 29)), (1, .int x1), (2, .int x2), (3, .int x3)] → GW g s (mkS σ [] [] [(29, v_r0)] []) H locs → JA_fillI_l5 6 F x1 x2 x3 v_r0 = some w_r0 → Wg p l e 0 0 s m args below meth c g none (mkS σ [] [] [(29, w_r0)] []) H locs (F0 m 5 ls []) := by
    intro F
    induction F with
    | zero => intro x1 x2 x3 v_r0 H locs ls hl hG h; exact no_some h
    | succ F ih => intro x1 x2 x3 v_r0 H locs ls hl hG h; exact n5 (fun x1 x2 x3 v_r0 => JA_fillI_l5 6 F x1 x2 x3 v_r0) ih x1 x2 x3 v_r0 H locs ls hl hG h
  refine lv_iconst (v := (0 : Int32)) hx hb dJ7_fill_53178_0 (by decide) ?_
  refine lv_istore_n (lv' := [(2, .int (0 : Int32)), (0, .ref (g.2.1 29)), (1, .int x1)]) hx hb dJ7_fill_53178_1 rfl hl (Nat.le_of_ble_eq_true rfl) rfl (fun ls hl => ?_)
  refine lv_aload_n hx hb dJ7_fill_53178_2 rfl (lv_at hl 1 rfl) ?_
  refine gx_alen (v := (Int32.ofNat 6)) hx hb hK hG 0 (ga_29 g _) rfl rfl dJ7_fill_53178_3 ?_
  refine lv_istore_n (lv' := [(3, .int (Int32.ofNat 6)), (2, .int (0 : Int32)), (0, .ref (g.2.1 29)), (1, .int x1)]) hx hb dJ7_fill_53178_4 rfl hl (Nat.le_of_ble_eq_true rfl) rfl (fun ls hl => ?_)
  exact l5 FUEL x1 (0 : Int32) (Int32.ofNat 6) (σ.2.2.1 29) _ _ _ (lv_sub hl [2, 3, 1, 0] rfl) hG h

set_option maxHeartbeats 4000000 in
set_option maxRecDepth 100000 in
theorem c_JA_fillI_30 (l : Launch) (g : GC) (σ : St) (x1 : Int32) (w_r0 : Nat → Int32) (h : JA_fillI x1 6 (σ.2.2.1 30) = some w_r0) : Cn l g yJ7_fill_53178 (Cond.code yJ7_fill_53178 cJ7_fill_53178 4 none :: wG) 0 0 [.ref (g.2.1 30), .int x1] σ none (mkS σ [] [] [(30, w_r0)] []) := by
  unfold Cn
  refine Met.ofW (cc := cJ7_fill_53178) (maxL := 4) (ret := none) (by decide) rfl ?_
  intro p e s m args below meth c s₁ B hml hv
  obtain ⟨hargs, hP0, hK⟩ := hv
  have hx := B.exec
  have hb := B.bytes
  have hr := B.returns
  have hts : ∀ w ∈ wG, w.before args s = true := fun w h => atoms_spec (ws := (Cond.code yJ7_fill_53178 cJ7_fill_53178 4 none :: wG)) B.pre w (List.mem_cons_of_mem _ h)
  have hown : s.vm.findClass RJ7 = some m.cls := findClass_of_methodNamed B.named
  have hlocks := B.notSynchronized
  have hf9 : entryFrame m args 4 = _ := (congrArg (fun a => entryFrame m a 4) hargs).trans (lg_entry_eq m [.ref (g.2.1 30), .int x1] 4)
  show Wg p l e 0 0 s m args below meth c g none (mkS σ [] [] [(30, w_r0)] []) s.heap [] (entryFrame m args 4)
  rw [hf9]
  have hl := lv_entry ([.ref (g.2.1 30), .int x1]) (n := 4) (Nat.le_of_ble_eq_true rfl)
  generalize (lg_sl ([.ref (g.2.1 30), .int x1]) ++ List.replicate (4 - (lg_sl ([.ref (g.2.1 30), .int x1])).length) Slot.unset).toArray = ls at hl ⊢
  have hl : lv_has ls 4 [(0, .ref (g.2.1 30)), (1, .int x1)] := hl
  have hG : GW g s σ s.heap [] := ⟨hP0, va_S.rf⟩
  have hG : GW g s (mkS σ [] [] [(30, (σ.2.2.1 30))] []) s.heap [] := GW_self [] [] [30] [] hG
  unfold JA_fillI at h
  have n20 : ∀ (v_r0 : Nat → Int32) (H : Heap) (locs : List Loc) (ls : Array Slot), lv_has ls 4 [] → GW g s (mkS σ [] [] [(30, v_r0)] []) H locs → JA_fillI_n20 6 v_r0 = some w_r0 → Wg p l e 0 0 s m args below meth c g none (mkS σ [] [] [(30, w_r0)] []) H locs (F0 m 20 ls []) := by
    intro v_r0 H locs ls hl hG h
    unfold JA_fillI_n20 at h
    cases h
    exact gx_vret hx hb hr hlocks hG dJ7_fill_53178_20
  have n5 : ∀ (k5 : Int32 → Int32 → Int32 → (Nat → Int32) → Option ((Nat → Int32))) (hk5 : ∀ (x1 : Int32) (x2 : Int32) (x3 : Int32) (v_r0 : Nat → Int32) (H : Heap) (locs : List Loc) (ls : Array Slot), lv_has ls 4 [(0, .ref (g.2.1 30)), (1, .int x1), (2, .int x2), (3, .int x3)] → GW g s (mkS σ [] [] [(30, v_r0)] []) H locs → k5 x1 x2 x3 v_r0 = some w_r0 → Wg p l e 0 0 s m args below meth c g none (mkS σ [] [] [(30, w_r0)] []) H locs (F0 m 5 ls [])) (x1 : Int32) (x2 : Int32) (x3 : Int32) (v_r0 : Nat → Int32) (H : Heap) (locs : List Loc) (ls : Array Slot), lv_has ls 4 [(0, .ref (g.2.1 30)), (1, .int x1), (2, .int x2), (3, .int x3)] → GW g s (mkS σ [] [] [(30, v_r0)] []) H locs → JA_fillI_n5 k5 6 x1 x2 x3 v_r0 = some w_r0 → Wg p l e 0 0 s m args below meth c g none (mkS σ [] [] [(30, w_r0)] []) H locs (F0 m 5 ls []) := by
    intro k5 hk5 x1 x2 x3 v_r0 H locs ls hl hG h
    unfold JA_fillI_n5 at h
    refine lv_iload_n hx hb dJ7_fill_53178_5 rfl (lv_at hl 2 rfl) ?_
    refine lv_iload_n hx hb dJ7_fill_53178_6 rfl (lv_at hl 3 rfl) ?_
    refine lv_icmp_ge (tgt := 20) hx hb dJ7_fill_53178_7 (by decide) (fun c1 => ?_) (fun c1 => ?_)
    · have h := ite_t c1 h
      exact n20 v_r0 _ _ _ (lv_sub hl [] rfl) hG h
    · have h := ite_f c1 h
      refine lv_aload_n hx hb dJ7_fill_53178_10 rfl (lv_at hl 0 rfl) ?_
      refine lv_iload_n hx hb dJ7_fill_53178_11 rfl (lv_at hl 2 rfl) ?_
      refine lv_iload_n hx hb dJ7_fill_53178_12 rfl (lv_at hl 1 rfl) ?_
      obtain ⟨hg2, h⟩ := gd_some h
      refine gx_iast (σ' := (mkS σ [] [] [(30, (upd v_r0 (x2.toNatClampNeg) x1))] [])) (f := v_r0) hx hb hK hG (ga_30 g _) hg2 ((gs_30 g _ _).trans (congrArg (g_cells g) (mk_c 0 rfl rfl))) dJ7_fill_53178_13 (fun H locs hG => ?_)
      refine lv_iinc (v := (x2 + (1 : Int32))) (lv' := [(2, .int (x2 + (1 : Int32))), (0, .ref (g.2.1 30)), (1, .int x1), (3, .int x3)]) hx hb dJ7_fill_53178_14 hl (k := 2) rfl (congrArg (fun z => x2 + z) (by decide)) (Nat.le_of_ble_eq_true rfl) rfl (fun ls hl => ?_)
      refine lv_goto (tgt := 5) hx hb dJ7_fill_53178_17 (by decide) ?_
      exact hk5 x1 (x2 + (1 : Int32)) x3 (upd v_r0 (x2.toNatClampNeg) x1) _ _ _ (lv_sub hl [1, 2, 0, 3] rfl) hG h
  have l5 : ∀  (F : Nat) (x1 : Int32) (x2 : Int32) (x3 : Int32) (v_r0 : Nat → Int32) (H : Heap) (locs : List Loc) (ls : Array Slot), lv_has ls 4 [(0, .ref (g.2.1 30)), (1, .int x1), (2, .int x2), (3, .int x3)] → GW g s (mkS σ [] [] [(30, v_r0)] []) H locs → JA_fillI_l5 6 F x1 x2 x3 v_r0 = some w_r0 → Wg p l e 0 0 s m args below meth c g none (mkS σ [] [] [(30, w_r0)] []) H locs (F0 m 5 ls []) := by
    intro F
    induction F with
    | zero => intro x1 x2 x3 v_r0 H locs ls hl hG h; exact no_some h
    | succ F ih => intro x1 x2 x3 v_r0 H locs ls hl hG h; exact n5 (fun x1 x2 x3 v_r0 => JA_fillI_l5 6 F x1 x2 x3 v_r0) ih x1 x2 x3 v_r0 H locs ls hl hG h
  refine lv_iconst (v := (0 : Int32)) hx hb dJ7_fill_53178_0 (by decide) ?_
  refine lv_istore_n (lv' := [(2, .int (0 : Int32)), (0, .ref (g.2.1 30)), (1, .int x1)]) hx hb dJ7_fill_53178_1 rfl hl (Nat.le_of_ble_eq_true rfl) rfl (fun ls hl => ?_)
  refine lv_aload_n hx hb dJ7_fill_53178_2 rfl (lv_at hl 1 rfl) ?_
  refine gx_alen (v := (Int32.ofNat 6)) hx hb hK hG 0 (ga_30 g _) rfl rfl dJ7_fill_53178_3 ?_
  refine lv_istore_n (lv' := [(3, .int (Int32.ofNat 6)), (2, .int (0 : Int32)), (0, .ref (g.2.1 30)), (1, .int x1)]) hx hb dJ7_fill_53178_4 rfl hl (Nat.le_of_ble_eq_true rfl) rfl (fun ls hl => ?_)
  exact l5 FUEL x1 (0 : Int32) (Int32.ofNat 6) (σ.2.2.1 30) _ _ _ (lv_sub hl [2, 3, 1, 0] rfl) hG h

set_option maxHeartbeats 4000000 in
set_option maxRecDepth 100000 in
theorem c_Td_lay (l : Launch) (g : GC) (σ : St) (x1 : Int32) (w_judged : Int32) (w_length : Int32) (w_b : Nat → Int32) (w_c : Nat → Int32) (h : Td_lay x1 (σ.1 1804) (σ.1 1800) (σ.2.2.1 29) (σ.2.2.1 30) = some (w_judged, w_length, w_b, w_c)) : Cn l g yX6_lay (Cond.code yX6_lay cX6_lay 3 none :: wG) 1 23 [.ref (g.2.1 28), .int x1] σ none (mkS σ [(1804, w_judged), (1800, w_length)] [] [(29, w_b), (30, w_c)] []) := by
  unfold Cn
  refine Met.ofW (cc := cX6_lay) (maxL := 3) (ret := none) (by decide) rfl ?_
  intro p e s m args below meth c s₁ B hml hv
  obtain ⟨hargs, hP0, hK⟩ := hv
  have hx := B.exec
  have hb := B.bytes
  have hr := B.returns
  have hts : ∀ w ∈ wG, w.before args s = true := fun w h => atoms_spec (ws := (Cond.code yX6_lay cX6_lay 3 none :: wG)) B.pre w (List.mem_cons_of_mem _ h)
  have hown : s.vm.findClass RX6 = some m.cls := findClass_of_methodNamed B.named
  have hlocks := B.notSynchronized
  have hS9 : CallFix p m c cX6_lay 3 s args wG RX6 := ⟨hx, hb, hml, hown, hts⟩
  have hw0 := hts _ mw_1_178
  have hw1 := hts _ mw_1_157
  have hw2 := hts _ mw_1_159
  have hw3 := hts _ mw_1_171
  have hf9 : entryFrame m args 3 = _ := (congrArg (fun a => entryFrame m a 3) hargs).trans (lg_entry_eq m [.ref (g.2.1 28), .int x1] 3)
  show Wg p l e 1 23 s m args below meth c g none (mkS σ [(1804, w_judged), (1800, w_length)] [] [(29, w_b), (30, w_c)] []) s.heap [] (entryFrame m args 3)
  rw [hf9]
  have hl := lv_entry ([.ref (g.2.1 28), .int x1]) (n := 3) (Nat.le_of_ble_eq_true rfl)
  generalize (lg_sl ([.ref (g.2.1 28), .int x1]) ++ List.replicate (3 - (lg_sl ([.ref (g.2.1 28), .int x1])).length) Slot.unset).toArray = ls at hl ⊢
  have hl : lv_has ls 3 [(0, .ref (g.2.1 28)), (1, .int x1)] := hl
  have hG : GW g s σ s.heap [] := ⟨hP0, va_S.rf⟩
  have hG : GW g s (mkS σ [(1804, (σ.1 1804)), (1800, (σ.1 1800))] [] [(29, (σ.2.2.1 29)), (30, (σ.2.2.1 30))] []) s.heap [] := GW_self [1804, 1800] [] [29, 30] [] hG
  unfold Td_lay at h
  have n50 : ∀ (v_judged : Int32) (v_length : Int32) (v_b : Nat → Int32) (v_c : Nat → Int32) (H : Heap) (locs : List Loc) (ls : Array Slot), lv_has ls 3 [(0, .ref (g.2.1 28))] → GW g s (mkS σ [(1804, v_judged), (1800, v_length)] [] [(29, v_b), (30, v_c)] []) H locs → Td_lay_n50 v_judged v_length v_b v_c = some (w_judged, w_length, w_b, w_c) → Wg p l e 1 23 s m args below meth c g none (mkS σ [(1804, w_judged), (1800, w_length)] [] [(29, w_b), (30, w_c)] []) H locs (F0 m 50 ls []) := by
    intro v_judged v_length v_b v_c H locs ls hl hG h
    unfold Td_lay_n50 at h
    refine lv_aload_n hx hb dX6_lay_50 rfl (lv_at hl 0 rfl) ?_
    refine lv_iconst (v := (0 : Int32)) hx hb dX6_lay_51 (by decide) ?_
    refine gx_put (σ' := (mkS σ [(1804, (0 : Int32)), (1800, v_length)] [] [(29, v_b), (30, v_c)] [])) (C := RX6) (T := TX6) (N := 13) hx hb hts mc_X6 tyX6 tyX6_ok nmX6 hown hK hG (ga_28 g _) rfl 12 (by decide) hw0 rfl rfl (isb_n (by decide)) (isb_f (by decide)) (Nat.le_of_ble_eq_true rfl) ((gf_1804 g _ _).trans (congrArg (g_cells g) (mk_a 0 rfl rfl))) dX6_lay_52 (fun H locs hG => ?_)
    cases h
    exact gx_vret hx hb hr hlocks hG dX6_lay_55
  have n23 : ∀ (k23 : Int32 → Int32 → Int32 → Int32 → (Nat → Int32) → (Nat → Int32) → Option (Int32 × Int32 × (Nat → Int32) × (Nat → Int32))) (hk23 : ∀ (x1 : Int32) (x2 : Int32) (v_judged : Int32) (v_length : Int32) (v_b : Nat → Int32) (v_c : Nat → Int32) (H : Heap) (locs : List Loc) (ls : Array Slot), lv_has ls 3 [(0, .ref (g.2.1 28)), (1, .int x1), (2, .int x2)] → GW g s (mkS σ [(1804, v_judged), (1800, v_length)] [] [(29, v_b), (30, v_c)] []) H locs → k23 x1 x2 v_judged v_length v_b v_c = some (w_judged, w_length, w_b, w_c) → Wg p l e 1 23 s m args below meth c g none (mkS σ [(1804, w_judged), (1800, w_length)] [] [(29, w_b), (30, w_c)] []) H locs (F0 m 23 ls [])) (x1 : Int32) (x2 : Int32) (v_judged : Int32) (v_length : Int32) (v_b : Nat → Int32) (v_c : Nat → Int32) (H : Heap) (locs : List Loc) (ls : Array Slot), lv_has ls 3 [(0, .ref (g.2.1 28)), (1, .int x1), (2, .int x2)] → GW g s (mkS σ [(1804, v_judged), (1800, v_length)] [] [(29, v_b), (30, v_c)] []) H locs → Td_lay_n23 k23 x1 x2 v_judged v_length v_b v_c = some (w_judged, w_length, w_b, w_c) → Wg p l e 1 23 s m args below meth c g none (mkS σ [(1804, w_judged), (1800, w_length)] [] [(29, w_b), (30, w_c)] []) H locs (F0 m 23 ls []) := by
    intro k23 hk23 x1 x2 v_judged v_length v_b v_c H locs ls hl hG h
    unfold Td_lay_n23 at h
    refine lv_iload_n hx hb dX6_lay_23 rfl (lv_at hl 2 rfl) ?_
    refine lv_iload_n hx hb dX6_lay_24 rfl (lv_at hl 1 rfl) ?_
    refine lv_icmp_ge (tgt := 50) hx hb dX6_lay_25 (by decide) (fun c1 => ?_) (fun c1 => ?_)
    · have h := ite_t c1 h
      exact n50 v_judged v_length v_b v_c _ _ _ (lv_sub hl [0] rfl) hG h
    · have h := ite_f c1 h
      refine lv_aload_n hx hb dX6_lay_28 rfl (lv_at hl 0 rfl) ?_
      refine gx_get (v := .ref (g.2.1 29)) (C := RX6) (T := TX6) (N := 13) hx hb hts mc_X6 hown hK hG (ga_28 g _) rfl 0 (by decide) hw1 rfl rfl dX6_lay_29 ?_
      refine lv_iload_n hx hb dX6_lay_32 rfl (lv_at hl 2 rfl) ?_
      refine lv_iconst (v := (1 : Int32)) hx hb dX6_lay_33 (by decide) ?_
      obtain ⟨hg2, h⟩ := gd_some h
      refine gx_iast (σ' := (mkS σ [(1804, v_judged), (1800, v_length)] [] [(29, (upd v_b (x2.toNatClampNeg) (1 : Int32))), (30, v_c)] [])) (f := v_b) hx hb hK hG (ga_29 g _) hg2 ((gs_29 g _ _).trans (congrArg (g_cells g) (mk_c 0 rfl rfl))) dX6_lay_34 (fun H locs hG => ?_)
      refine lv_aload_n hx hb dX6_lay_35 rfl (lv_at hl 0 rfl) ?_
      refine gx_get (v := .ref (g.2.1 30)) (C := RX6) (T := TX6) (N := 13) hx hb hts mc_X6 hown hK hG (ga_28 g _) rfl 1 (by decide) hw2 rfl rfl dX6_lay_36 ?_
      refine lv_iload_n hx hb dX6_lay_39 rfl (lv_at hl 2 rfl) ?_
      refine lv_iconst (v := (1 : Int32)) hx hb dX6_lay_40 (by decide) ?_
      refine lv_iadd hx hb dX6_lay_41 ?_
      refine lv_iconst (v := (1 : Int32)) hx hb dX6_lay_42 (by decide) ?_
      obtain ⟨hg3, h⟩ := gd_some h
      refine gx_iast (σ' := (mkS σ [(1804, v_judged), (1800, v_length)] [] [(29, (upd v_b (x2.toNatClampNeg) (1 : Int32))), (30, (upd v_c ((x2 + (1 : Int32)).toNatClampNeg) (1 : Int32)))] [])) (f := v_c) hx hb hK hG (ga_30 g _) hg3 ((gs_30 g _ _).trans (congrArg (g_cells g) (mk_c 1 rfl rfl))) dX6_lay_43 (fun H locs hG => ?_)
      refine lv_iinc (v := (x2 + (1 : Int32))) (lv' := [(2, .int (x2 + (1 : Int32))), (0, .ref (g.2.1 28)), (1, .int x1)]) hx hb dX6_lay_44 hl (k := 2) rfl (congrArg (fun z => x2 + z) (by decide)) (Nat.le_of_ble_eq_true rfl) rfl (fun ls hl => ?_)
      refine lv_goto (tgt := 23) hx hb dX6_lay_47 (by decide) ?_
      exact hk23 x1 (x2 + (1 : Int32)) v_judged v_length (upd v_b (x2.toNatClampNeg) (1 : Int32)) (upd v_c ((x2 + (1 : Int32)).toNatClampNeg) (1 : Int32)) _ _ _ (lv_sub hl [1, 2, 0] rfl) hG h
  have l23 : ∀  (F : Nat) (x1 : Int32) (x2 : Int32) (v_judged : Int32) (v_length : Int32) (v_b : Nat → Int32) (v_c : Nat → Int32) (H : Heap) (locs : List Loc) (ls : Array Slot), lv_has ls 3 [(0, .ref (g.2.1 28)), (1, .int x1), (2, .int x2)] → GW g s (mkS σ [(1804, v_judged), (1800, v_length)] [] [(29, v_b), (30, v_c)] []) H locs → Td_lay_l23 F x1 x2 v_judged v_length v_b v_c = some (w_judged, w_length, w_b, w_c) → Wg p l e 1 23 s m args below meth c g none (mkS σ [(1804, w_judged), (1800, w_length)] [] [(29, w_b), (30, w_c)] []) H locs (F0 m 23 ls []) := by
    intro F
    induction F with
    | zero => intro x1 x2 v_judged v_length v_b v_c H locs ls hl hG h; exact no_some h
    | succ F ih => intro x1 x2 v_judged v_length v_b v_c H locs ls hl hG h; exact n23 (fun x1 x2 v_judged v_length v_b v_c => Td_lay_l23 F x1 x2 v_judged v_length v_b v_c) ih x1 x2 v_judged v_length v_b v_c H locs ls hl hG h
  refine lv_aload_n hx hb dX6_lay_0 rfl (lv_at hl 0 rfl) ?_
  refine lv_iload_n hx hb dX6_lay_1 rfl (lv_at hl 1 rfl) ?_
  refine gx_put (σ' := (mkS σ [(1804, (σ.1 1804)), (1800, x1)] [] [(29, (σ.2.2.1 29)), (30, (σ.2.2.1 30))] [])) (C := RX6) (T := TX6) (N := 13) hx hb hts mc_X6 tyX6 tyX6_ok nmX6 hown hK hG (ga_28 g _) rfl 8 (by decide) hw3 rfl rfl rfl rfl (Nat.le_of_ble_eq_true rfl) ((gf_1800 g _ _).trans (congrArg (g_cells g) (mk_a 1 rfl rfl))) dX6_lay_2 (fun H locs hG => ?_)
  refine lv_aload_n hx hb dX6_lay_5 rfl (lv_at hl 0 rfl) ?_
  refine gx_get (v := .ref (g.2.1 29)) (C := RX6) (T := TX6) (N := 13) hx hb hts mc_X6 hown hK hG (ga_28 g _) rfl 0 (by decide) hw1 rfl rfl dX6_lay_6 ?_
  refine lv_iconst (v := (0 : Int32)) hx hb dX6_lay_9 (by decide) ?_
  obtain ⟨z4, hc5, h⟩ := bnd_some h
  refine gx_cS (σ' := (mkS σ [(1804, (σ.1 1804)), (1800, x1)] [] [(29, z4), (30, (σ.2.2.1 30))] [])) (r := none) (rest := []) (As := [.ref (g.2.1 29), .int (0 : Int32)]) hS9 (c_JA_fillI_29 l g (mkS σ [(1804, (σ.1 1804)), (1800, x1)] [] [(29, (σ.2.2.1 29)), (30, (σ.2.2.1 30))] []) (0 : Int32) z4 hc5) (mk_mk rfl rfl rfl rfl) (va_cwS 2 hts (gz_S mw_1_154 mw_1_155 mw_1_8 mw_1_156) rfl rfl rfl hdS_J7_fill_53178 ⟨Nat.le_of_ble_eq_true rfl, Nat.le_of_ble_eq_true rfl⟩) hK hG rfl hl.1 rfl (Nat.le_of_ble_eq_true rfl) dX6_lay_10 (fun H locs hG => ?_)
  refine W.eq (g2 := F0 m 13 ls []) rfl ?_
  refine lv_aload_n hx hb dX6_lay_13 rfl (lv_at hl 0 rfl) ?_
  refine gx_get (v := .ref (g.2.1 30)) (C := RX6) (T := TX6) (N := 13) hx hb hts mc_X6 hown hK hG (ga_28 g _) rfl 1 (by decide) hw2 rfl rfl dX6_lay_14 ?_
  refine lv_iconst (v := (0 : Int32)) hx hb dX6_lay_17 (by decide) ?_
  obtain ⟨z6, hc7, h⟩ := bnd_some h
  refine gx_cS (σ' := (mkS σ [(1804, (σ.1 1804)), (1800, x1)] [] [(29, z4), (30, z6)] [])) (r := none) (rest := []) (As := [.ref (g.2.1 30), .int (0 : Int32)]) hS9 (c_JA_fillI_30 l g (mkS σ [(1804, (σ.1 1804)), (1800, x1)] [] [(29, z4), (30, (σ.2.2.1 30))] []) (0 : Int32) z6 hc7) (mk_mk rfl rfl rfl rfl) (va_cwS 2 hts (gz_S mw_1_154 mw_1_155 mw_1_8 mw_1_156) rfl rfl rfl hdS_J7_fill_53178 ⟨Nat.le_of_ble_eq_true rfl, Nat.le_of_ble_eq_true rfl⟩) hK hG rfl hl.1 rfl (Nat.le_of_ble_eq_true rfl) dX6_lay_18 (fun H locs hG => ?_)
  refine W.eq (g2 := F0 m 21 ls []) rfl ?_
  refine lv_iconst (v := (0 : Int32)) hx hb dX6_lay_21 (by decide) ?_
  refine lv_istore_n (lv' := [(2, .int (0 : Int32)), (0, .ref (g.2.1 28)), (1, .int x1)]) hx hb dX6_lay_22 rfl hl (Nat.le_of_ble_eq_true rfl) rfl (fun ls hl => ?_)
  exact l23 FUEL x1 (0 : Int32) (σ.1 1804) x1 z4 z6 _ _ _ (lv_sub hl [1, 2, 0] rfl) hG h

set_option maxHeartbeats 4000000 in
set_option maxRecDepth 100000 in
theorem c_LN_take (l : Launch) (g : GC) (σ : St) (r : Int32) (w_likeness_clashFrom : Int32) (w_likeness_clashTo : Int32) (w_likeness_holds : Int32) (w_likeness_ready : Int32) (w_told_judged : Int32) (w_told_length : Int32) (w_ways_far : Int32) (w_ways_ready : Int32) (w_ways_size : Int32) (w_ways_whole : Int32) (w_likeness_a : Nat → Int32) (w_likeness_b : Nat → Int32) (w_likeness_c : Nat → Int32) (w_told_b : Nat → Int32) (w_told_c : Nat → Int32) (w_ways_layers : Nat → Int32) (w_ways_reached : Nat → Int32) (w_ways_steps : Nat → Int32) (h : LN_take (σ.1 1541) (σ.1 1542) (σ.1 1540) (σ.1 1539) (σ.1 641) (σ.1 1804) (σ.1 1800) (σ.1 1286) (σ.1 1283) (σ.1 1285) (σ.1 1284) (σ.2.2.1 26) (σ.2.2.1 27) (σ.2.2.1 25) (σ.2.2.1 11) (σ.2.2.1 29) (σ.2.2.1 30) (σ.2.2.1 22) (σ.2.2.1 23) (σ.2.2.1 21) = some (r, w_likeness_clashFrom, w_likeness_clashTo, w_likeness_holds, w_likeness_ready, w_told_judged, w_told_length, w_ways_far, w_ways_ready, w_ways_size, w_ways_whole, w_likeness_a, w_likeness_b, w_likeness_c, w_told_b, w_told_c, w_ways_layers, w_ways_reached, w_ways_steps)) : Cn l g yX8_take (Cond.code yX8_take cX8_take 2 (some .int) :: wG) 6 134 [.ref (g.2.1 0)] σ (some (.int r)) (mkS σ [(1541, w_likeness_clashFrom), (1542, w_likeness_clashTo), (1540, w_likeness_holds), (1539, w_likeness_ready), (1804, w_told_judged), (1800, w_told_length), (1286, w_ways_far), (1283, w_ways_ready), (1285, w_ways_size), (1284, w_ways_whole)] [] [(26, w_likeness_a), (27, w_likeness_b), (25, w_likeness_c), (29, w_told_b), (30, w_told_c), (22, w_ways_layers), (23, w_ways_reached), (21, w_ways_steps)] []) := by
  unfold Cn
  refine Met.ofW (cc := cX8_take) (maxL := 2) (ret := (some .int)) (by decide) rfl ?_
  intro p e s m args below meth c s₁ B hml hv
  obtain ⟨hargs, hP0, hK⟩ := hv
  have hx := B.exec
  have hb := B.bytes
  have hr := B.returns
  have hts : ∀ w ∈ wG, w.before args s = true := fun w h => atoms_spec (ws := (Cond.code yX8_take cX8_take 2 (some .int) :: wG)) B.pre w (List.mem_cons_of_mem _ h)
  have hown : s.vm.findClass RX8 = some m.cls := findClass_of_methodNamed B.named
  have hlocks := B.notSynchronized
  have hS9 : CallFix p m c cX8_take 2 s args wG RX8 := ⟨hx, hb, hml, hown, hts⟩
  have hw0 := hts _ mw_2_46
  have hw1 := hts _ mw_1_172
  have hw2 := hts _ mw_2_44
  have hw3 := hts _ mw_1_93
  have hw4 := hts _ mw_2_45
  have hw5 := hts _ mw_1_120
  have hw6 := hts _ mw_1_116
  have hf9 : entryFrame m args 2 = _ := (congrArg (fun a => entryFrame m a 2) hargs).trans (lg_entry_eq m [.ref (g.2.1 0)] 2)
  show Wg p l e 6 134 s m args below meth c g (some (.int r)) (mkS σ [(1541, w_likeness_clashFrom), (1542, w_likeness_clashTo), (1540, w_likeness_holds), (1539, w_likeness_ready), (1804, w_told_judged), (1800, w_told_length), (1286, w_ways_far), (1283, w_ways_ready), (1285, w_ways_size), (1284, w_ways_whole)] [] [(26, w_likeness_a), (27, w_likeness_b), (25, w_likeness_c), (29, w_told_b), (30, w_told_c), (22, w_ways_layers), (23, w_ways_reached), (21, w_ways_steps)] []) s.heap [] (entryFrame m args 2)
  rw [hf9]
  have hl := lv_entry ([.ref (g.2.1 0)]) (n := 2) (Nat.le_of_ble_eq_true rfl)
  generalize (lg_sl ([.ref (g.2.1 0)]) ++ List.replicate (2 - (lg_sl ([.ref (g.2.1 0)])).length) Slot.unset).toArray = ls at hl ⊢
  have hl : lv_has ls 2 [(0, .ref (g.2.1 0))] := hl
  have hG : GW g s σ s.heap [] := ⟨hP0, va_S.rf⟩
  have hG : GW g s (mkS σ [(1541, (σ.1 1541)), (1542, (σ.1 1542)), (1540, (σ.1 1540)), (1539, (σ.1 1539)), (1804, (σ.1 1804)), (1800, (σ.1 1800)), (1286, (σ.1 1286)), (1283, (σ.1 1283)), (1285, (σ.1 1285)), (1284, (σ.1 1284))] [] [(26, (σ.2.2.1 26)), (27, (σ.2.2.1 27)), (25, (σ.2.2.1 25)), (29, (σ.2.2.1 29)), (30, (σ.2.2.1 30)), (22, (σ.2.2.1 22)), (23, (σ.2.2.1 23)), (21, (σ.2.2.1 21))] []) s.heap [] := GW_self [1541, 1542, 1540, 1539, 1804, 1800, 1286, 1283, 1285, 1284] [] [26, 27, 25, 29, 30, 22, 23, 21] [] hG
  unfold LN_take at h
  have n48 : ∀ (v_likeness_clashFrom : Int32) (v_likeness_clashTo : Int32) (v_likeness_holds : Int32) (v_likeness_ready : Int32) (v_told_judged : Int32) (v_told_length : Int32) (v_ways_far : Int32) (v_ways_ready : Int32) (v_ways_size : Int32) (v_ways_whole : Int32) (v_likeness_a : Nat → Int32) (v_likeness_b : Nat → Int32) (v_likeness_c : Nat → Int32) (v_told_b : Nat → Int32) (v_told_c : Nat → Int32) (v_ways_layers : Nat → Int32) (v_ways_reached : Nat → Int32) (v_ways_steps : Nat → Int32) (H : Heap) (locs : List Loc) (ls : Array Slot), lv_has ls 2 [] → GW g s (mkS σ [(1541, v_likeness_clashFrom), (1542, v_likeness_clashTo), (1540, v_likeness_holds), (1539, v_likeness_ready), (1804, v_told_judged), (1800, v_told_length), (1286, v_ways_far), (1283, v_ways_ready), (1285, v_ways_size), (1284, v_ways_whole)] [] [(26, v_likeness_a), (27, v_likeness_b), (25, v_likeness_c), (29, v_told_b), (30, v_told_c), (22, v_ways_layers), (23, v_ways_reached), (21, v_ways_steps)] []) H locs → LN_take_n48 v_likeness_clashFrom v_likeness_clashTo v_likeness_holds v_likeness_ready v_told_judged v_told_length v_ways_far v_ways_ready v_ways_size v_ways_whole v_likeness_a v_likeness_b v_likeness_c v_told_b v_told_c v_ways_layers v_ways_reached v_ways_steps = some (r, w_likeness_clashFrom, w_likeness_clashTo, w_likeness_holds, w_likeness_ready, w_told_judged, w_told_length, w_ways_far, w_ways_ready, w_ways_size, w_ways_whole, w_likeness_a, w_likeness_b, w_likeness_c, w_told_b, w_told_c, w_ways_layers, w_ways_reached, w_ways_steps) → Wg p l e 6 134 s m args below meth c g (some (.int r)) (mkS σ [(1541, w_likeness_clashFrom), (1542, w_likeness_clashTo), (1540, w_likeness_holds), (1539, w_likeness_ready), (1804, w_told_judged), (1800, w_told_length), (1286, w_ways_far), (1283, w_ways_ready), (1285, w_ways_size), (1284, w_ways_whole)] [] [(26, w_likeness_a), (27, w_likeness_b), (25, w_likeness_c), (29, w_told_b), (30, w_told_c), (22, w_ways_layers), (23, w_ways_reached), (21, w_ways_steps)] []) H locs (F0 m 48 ls []) := by
    intro v_likeness_clashFrom v_likeness_clashTo v_likeness_holds v_likeness_ready v_told_judged v_told_length v_ways_far v_ways_ready v_ways_size v_ways_whole v_likeness_a v_likeness_b v_likeness_c v_told_b v_told_c v_ways_layers v_ways_reached v_ways_steps H locs ls hl hG h
    unfold LN_take_n48 at h
    refine lv_bipush (v := (-5 : Int32)) hx hb dX8_take_48 (by decide) ?_
    cases h
    exact gx_iret hx hb hr hlocks hG dX8_take_50
  have n124 : ∀ (v_likeness_clashFrom : Int32) (v_likeness_clashTo : Int32) (v_likeness_holds : Int32) (v_likeness_ready : Int32) (v_told_judged : Int32) (v_told_length : Int32) (v_ways_far : Int32) (v_ways_ready : Int32) (v_ways_size : Int32) (v_ways_whole : Int32) (v_likeness_a : Nat → Int32) (v_likeness_b : Nat → Int32) (v_likeness_c : Nat → Int32) (v_told_b : Nat → Int32) (v_told_c : Nat → Int32) (v_ways_layers : Nat → Int32) (v_ways_reached : Nat → Int32) (v_ways_steps : Nat → Int32) (H : Heap) (locs : List Loc) (ls : Array Slot), lv_has ls 2 [(0, .ref (g.2.1 0))] → GW g s (mkS σ [(1541, v_likeness_clashFrom), (1542, v_likeness_clashTo), (1540, v_likeness_holds), (1539, v_likeness_ready), (1804, v_told_judged), (1800, v_told_length), (1286, v_ways_far), (1283, v_ways_ready), (1285, v_ways_size), (1284, v_ways_whole)] [] [(26, v_likeness_a), (27, v_likeness_b), (25, v_likeness_c), (29, v_told_b), (30, v_told_c), (22, v_ways_layers), (23, v_ways_reached), (21, v_ways_steps)] []) H locs → LN_take_n124 v_likeness_clashFrom v_likeness_clashTo v_likeness_holds v_likeness_ready v_told_judged v_told_length v_ways_far v_ways_ready v_ways_size v_ways_whole v_likeness_a v_likeness_b v_likeness_c v_told_b v_told_c v_ways_layers v_ways_reached v_ways_steps = some (r, w_likeness_clashFrom, w_likeness_clashTo, w_likeness_holds, w_likeness_ready, w_told_judged, w_told_length, w_ways_far, w_ways_ready, w_ways_size, w_ways_whole, w_likeness_a, w_likeness_b, w_likeness_c, w_told_b, w_told_c, w_ways_layers, w_ways_reached, w_ways_steps) → Wg p l e 6 134 s m args below meth c g (some (.int r)) (mkS σ [(1541, w_likeness_clashFrom), (1542, w_likeness_clashTo), (1540, w_likeness_holds), (1539, w_likeness_ready), (1804, w_told_judged), (1800, w_told_length), (1286, w_ways_far), (1283, w_ways_ready), (1285, w_ways_size), (1284, w_ways_whole)] [] [(26, w_likeness_a), (27, w_likeness_b), (25, w_likeness_c), (29, w_told_b), (30, w_told_c), (22, w_ways_layers), (23, w_ways_reached), (21, w_ways_steps)] []) H locs (F0 m 124 ls []) := by
    intro v_likeness_clashFrom v_likeness_clashTo v_likeness_holds v_likeness_ready v_told_judged v_told_length v_ways_far v_ways_ready v_ways_size v_ways_whole v_likeness_a v_likeness_b v_likeness_c v_told_b v_told_c v_ways_layers v_ways_reached v_ways_steps H locs ls hl hG h
    unfold LN_take_n124 at h
    refine lv_aload_n hx hb dX8_take_124 rfl (lv_at hl 0 rfl) ?_
    refine gx_get (v := .ref (g.2.1 28)) (C := RX8) (T := TX8) (N := 13) hx hb hts mc_X8 hown hK hG (ga_0 g _) rfl 9 (by decide) hw0 rfl rfl dX8_take_125 ?_
    refine gx_get (v := .int v_told_length) (C := RX6) (T := TX6) (N := 13) hx hb hts mc_X6 hown hK hG (ga_28 g _) rfl 8 (by decide) hw1 rfl rfl dX8_take_128 ?_
    cases h
    exact gx_iret hx hb hr hlocks hG dX8_take_131
  have n67 : ∀ (k67 : Int32 → Int32 → Int32 → Int32 → Int32 → Int32 → Int32 → Int32 → Int32 → Int32 → Int32 → (Nat → Int32) → (Nat → Int32) → (Nat → Int32) → (Nat → Int32) → (Nat → Int32) → (Nat → Int32) → (Nat → Int32) → (Nat → Int32) → Option (Int32 × Int32 × Int32 × Int32 × Int32 × Int32 × Int32 × Int32 × Int32 × Int32 × Int32 × (Nat → Int32) × (Nat → Int32) × (Nat → Int32) × (Nat → Int32) × (Nat → Int32) × (Nat → Int32) × (Nat → Int32) × (Nat → Int32))) (hk67 : ∀ (x1 : Int32) (v_likeness_clashFrom : Int32) (v_likeness_clashTo : Int32) (v_likeness_holds : Int32) (v_likeness_ready : Int32) (v_told_judged : Int32) (v_told_length : Int32) (v_ways_far : Int32) (v_ways_ready : Int32) (v_ways_size : Int32) (v_ways_whole : Int32) (v_likeness_a : Nat → Int32) (v_likeness_b : Nat → Int32) (v_likeness_c : Nat → Int32) (v_told_b : Nat → Int32) (v_told_c : Nat → Int32) (v_ways_layers : Nat → Int32) (v_ways_reached : Nat → Int32) (v_ways_steps : Nat → Int32) (H : Heap) (locs : List Loc) (ls : Array Slot), lv_has ls 2 [(0, .ref (g.2.1 0)), (1, .int x1)] → GW g s (mkS σ [(1541, v_likeness_clashFrom), (1542, v_likeness_clashTo), (1540, v_likeness_holds), (1539, v_likeness_ready), (1804, v_told_judged), (1800, v_told_length), (1286, v_ways_far), (1283, v_ways_ready), (1285, v_ways_size), (1284, v_ways_whole)] [] [(26, v_likeness_a), (27, v_likeness_b), (25, v_likeness_c), (29, v_told_b), (30, v_told_c), (22, v_ways_layers), (23, v_ways_reached), (21, v_ways_steps)] []) H locs → k67 x1 v_likeness_clashFrom v_likeness_clashTo v_likeness_holds v_likeness_ready v_told_judged v_told_length v_ways_far v_ways_ready v_ways_size v_ways_whole v_likeness_a v_likeness_b v_likeness_c v_told_b v_told_c v_ways_layers v_ways_reached v_ways_steps = some (r, w_likeness_clashFrom, w_likeness_clashTo, w_likeness_holds, w_likeness_ready, w_told_judged, w_told_length, w_ways_far, w_ways_ready, w_ways_size, w_ways_whole, w_likeness_a, w_likeness_b, w_likeness_c, w_told_b, w_told_c, w_ways_layers, w_ways_reached, w_ways_steps) → Wg p l e 6 134 s m args below meth c g (some (.int r)) (mkS σ [(1541, w_likeness_clashFrom), (1542, w_likeness_clashTo), (1540, w_likeness_holds), (1539, w_likeness_ready), (1804, w_told_judged), (1800, w_told_length), (1286, w_ways_far), (1283, w_ways_ready), (1285, w_ways_size), (1284, w_ways_whole)] [] [(26, w_likeness_a), (27, w_likeness_b), (25, w_likeness_c), (29, w_told_b), (30, w_told_c), (22, w_ways_layers), (23, w_ways_reached), (21, w_ways_steps)] []) H locs (F0 m 67 ls [])) (x1 : Int32) (v_likeness_clashFrom : Int32) (v_likeness_clashTo : Int32) (v_likeness_holds : Int32) (v_likeness_ready : Int32) (v_told_judged : Int32) (v_told_length : Int32) (v_ways_far : Int32) (v_ways_ready : Int32) (v_ways_size : Int32) (v_ways_whole : Int32) (v_likeness_a : Nat → Int32) (v_likeness_b : Nat → Int32) (v_likeness_c : Nat → Int32) (v_told_b : Nat → Int32) (v_told_c : Nat → Int32) (v_ways_layers : Nat → Int32) (v_ways_reached : Nat → Int32) (v_ways_steps : Nat → Int32) (H : Heap) (locs : List Loc) (ls : Array Slot), lv_has ls 2 [(0, .ref (g.2.1 0)), (1, .int x1)] → GW g s (mkS σ [(1541, v_likeness_clashFrom), (1542, v_likeness_clashTo), (1540, v_likeness_holds), (1539, v_likeness_ready), (1804, v_told_judged), (1800, v_told_length), (1286, v_ways_far), (1283, v_ways_ready), (1285, v_ways_size), (1284, v_ways_whole)] [] [(26, v_likeness_a), (27, v_likeness_b), (25, v_likeness_c), (29, v_told_b), (30, v_told_c), (22, v_ways_layers), (23, v_ways_reached), (21, v_ways_steps)] []) H locs → LN_take_n67 k67 x1 v_likeness_clashFrom v_likeness_clashTo v_likeness_holds v_likeness_ready v_told_judged v_told_length v_ways_far v_ways_ready v_ways_size v_ways_whole v_likeness_a v_likeness_b v_likeness_c v_told_b v_told_c v_ways_layers v_ways_reached v_ways_steps = some (r, w_likeness_clashFrom, w_likeness_clashTo, w_likeness_holds, w_likeness_ready, w_told_judged, w_told_length, w_ways_far, w_ways_ready, w_ways_size, w_ways_whole, w_likeness_a, w_likeness_b, w_likeness_c, w_told_b, w_told_c, w_ways_layers, w_ways_reached, w_ways_steps) → Wg p l e 6 134 s m args below meth c g (some (.int r)) (mkS σ [(1541, w_likeness_clashFrom), (1542, w_likeness_clashTo), (1540, w_likeness_holds), (1539, w_likeness_ready), (1804, w_told_judged), (1800, w_told_length), (1286, w_ways_far), (1283, w_ways_ready), (1285, w_ways_size), (1284, w_ways_whole)] [] [(26, w_likeness_a), (27, w_likeness_b), (25, w_likeness_c), (29, w_told_b), (30, w_told_c), (22, w_ways_layers), (23, w_ways_reached), (21, w_ways_steps)] []) H locs (F0 m 67 ls []) := by
    intro k67 hk67 x1 v_likeness_clashFrom v_likeness_clashTo v_likeness_holds v_likeness_ready v_told_judged v_told_length v_ways_far v_ways_ready v_ways_size v_ways_whole v_likeness_a v_likeness_b v_likeness_c v_told_b v_told_c v_ways_layers v_ways_reached v_ways_steps H locs ls hl hG h
    unfold LN_take_n67 at h
    refine lv_iload_n hx hb dX8_take_67 rfl (lv_at hl 1 rfl) ?_
    refine lv_aload_n hx hb dX8_take_68 rfl (lv_at hl 0 rfl) ?_
    refine gx_get (v := .ref (g.2.1 20)) (C := RX8) (T := TX8) (N := 13) hx hb hts mc_X8 hown hK hG (ga_0 g _) rfl 7 (by decide) hw2 rfl rfl dX8_take_69 ?_
    refine gx_get (v := .int v_ways_far) (C := RX7) (T := TX7) (N := 7) hx hb hts mc_X7 hown hK hG (ga_20 g _) rfl 6 (by decide) hw3 rfl rfl dX8_take_72 ?_
    refine lv_icmp_ge (tgt := 124) hx hb dX8_take_75 (by decide) (fun c1 => ?_) (fun c1 => ?_)
    · have h := ite_t c1 h
      exact n124 v_likeness_clashFrom v_likeness_clashTo v_likeness_holds v_likeness_ready v_told_judged v_told_length v_ways_far v_ways_ready v_ways_size v_ways_whole v_likeness_a v_likeness_b v_likeness_c v_told_b v_told_c v_ways_layers v_ways_reached v_ways_steps _ _ _ (lv_sub hl [0] rfl) hG h
    · have h := ite_f c1 h
      refine lv_aload_n hx hb dX8_take_78 rfl (lv_at hl 0 rfl) ?_
      refine gx_get (v := .ref (g.2.1 28)) (C := RX8) (T := TX8) (N := 13) hx hb hts mc_X8 hown hK hG (ga_0 g _) rfl 9 (by decide) hw0 rfl rfl dX8_take_79 ?_
      refine lv_iload_n hx hb dX8_take_82 rfl (lv_at hl 1 rfl) ?_
      refine lv_aload_n hx hb dX8_take_83 rfl (lv_at hl 0 rfl) ?_
      refine gx_get (v := .ref (g.2.1 24)) (C := RX8) (T := TX8) (N := 13) hx hb hts mc_X8 hown hK hG (ga_0 g _) rfl 8 (by decide) hw4 rfl rfl dX8_take_84 ?_
      refine gx_get (v := .ref (g.2.1 27)) (C := RX0) (T := TX0) (N := 7) hx hb hts mc_X0 hown hK hG (ga_24 g _) rfl 2 (by decide) hw5 rfl rfl dX8_take_87 ?_
      refine lv_iload_n hx hb dX8_take_90 rfl (lv_at hl 1 rfl) ?_
      obtain ⟨hg2, h⟩ := gd_some h
      refine gx_iald (f := v_likeness_b) hx hb hK hG (ga_27 g _) hg2 dX8_take_91 ?_
      obtain ⟨z3, hc4, h⟩ := bnd_some h
      refine gx_cV (σ' := (mkS σ [(1541, v_likeness_clashFrom), (1542, v_likeness_clashTo), (1540, v_likeness_holds), (1539, v_likeness_ready), (1804, z3.2.1), (1800, v_told_length), (1286, v_ways_far), (1283, v_ways_ready), (1285, v_ways_size), (1284, v_ways_whole)] [] [(26, v_likeness_a), (27, v_likeness_b), (25, v_likeness_c), (29, z3.2.2), (30, v_told_c), (22, v_ways_layers), (23, v_ways_reached), (21, v_ways_steps)] [])) (r := (some (.int z3.1))) (rest := []) (As := [.int x1, .int (v_likeness_b (x1.toNatClampNeg))]) hS9 (c_Td_putOnward l g (mkS σ [(1541, v_likeness_clashFrom), (1542, v_likeness_clashTo), (1540, v_likeness_holds), (1539, v_likeness_ready), (1804, v_told_judged), (1800, v_told_length), (1286, v_ways_far), (1283, v_ways_ready), (1285, v_ways_size), (1284, v_ways_whole)] [] [(26, v_likeness_a), (27, v_likeness_b), (25, v_likeness_c), (29, v_told_b), (30, v_told_c), (22, v_ways_layers), (23, v_ways_reached), (21, v_ways_steps)] []) x1 (v_likeness_b (x1.toNatClampNeg)) z3.1 z3.2.1 z3.2.2 hc4) (mk_mk rfl rfl rfl rfl) (cwV 2 hts (gz_V mw_3_120 mw_3_121 mw_3_122 mw_1_7 mw_3_123) rfl rfl rfl hdV_X6_putOnward ⟨Nat.le_of_ble_eq_true rfl, Nat.le_of_ble_eq_true rfl⟩) hK hG (ga_28 g _) rfl rfl rfl hl.1 rfl (Nat.le_of_ble_eq_true rfl) dX8_take_92 (fun H locs hG => ?_)
      refine W.eq (g2 := F0 m 95 ls [.int z3.1]) rfl ?_
      refine lv_pop hx hb dX8_take_95 rfl ?_
      refine lv_aload_n hx hb dX8_take_96 rfl (lv_at hl 0 rfl) ?_
      refine gx_get (v := .ref (g.2.1 28)) (C := RX8) (T := TX8) (N := 13) hx hb hts mc_X8 hown hK hG (ga_0 g _) rfl 9 (by decide) hw0 rfl rfl dX8_take_97 ?_
      refine lv_iload_n hx hb dX8_take_100 rfl (lv_at hl 1 rfl) ?_
      refine lv_iconst (v := (1 : Int32)) hx hb dX8_take_101 (by decide) ?_
      refine lv_iadd hx hb dX8_take_102 ?_
      refine lv_aload_n hx hb dX8_take_103 rfl (lv_at hl 0 rfl) ?_
      refine gx_get (v := .ref (g.2.1 24)) (C := RX8) (T := TX8) (N := 13) hx hb hts mc_X8 hown hK hG (ga_0 g _) rfl 8 (by decide) hw4 rfl rfl dX8_take_104 ?_
      refine gx_get (v := .ref (g.2.1 25)) (C := RX0) (T := TX0) (N := 7) hx hb hts mc_X0 hown hK hG (ga_24 g _) rfl 0 (by decide) hw6 rfl rfl dX8_take_107 ?_
      refine lv_iload_n hx hb dX8_take_110 rfl (lv_at hl 1 rfl) ?_
      refine lv_iconst (v := (1 : Int32)) hx hb dX8_take_111 (by decide) ?_
      refine lv_iadd hx hb dX8_take_112 ?_
      obtain ⟨hg5, h⟩ := gd_some h
      refine gx_iald (f := v_likeness_c) hx hb hK hG (ga_25 g _) hg5 dX8_take_113 ?_
      obtain ⟨z6, hc7, h⟩ := bnd_some h
      refine gx_cV (σ' := (mkS σ [(1541, v_likeness_clashFrom), (1542, v_likeness_clashTo), (1540, v_likeness_holds), (1539, v_likeness_ready), (1804, z6.2.1), (1800, v_told_length), (1286, v_ways_far), (1283, v_ways_ready), (1285, v_ways_size), (1284, v_ways_whole)] [] [(26, v_likeness_a), (27, v_likeness_b), (25, v_likeness_c), (29, z3.2.2), (30, z6.2.2), (22, v_ways_layers), (23, v_ways_reached), (21, v_ways_steps)] [])) (r := (some (.int z6.1))) (rest := []) (As := [.int (x1 + (1 : Int32)), .int (v_likeness_c ((x1 + (1 : Int32)).toNatClampNeg))]) hS9 (c_Td_putBackward l g (mkS σ [(1541, v_likeness_clashFrom), (1542, v_likeness_clashTo), (1540, v_likeness_holds), (1539, v_likeness_ready), (1804, z3.2.1), (1800, v_told_length), (1286, v_ways_far), (1283, v_ways_ready), (1285, v_ways_size), (1284, v_ways_whole)] [] [(26, v_likeness_a), (27, v_likeness_b), (25, v_likeness_c), (29, z3.2.2), (30, v_told_c), (22, v_ways_layers), (23, v_ways_reached), (21, v_ways_steps)] []) (x1 + (1 : Int32)) (v_likeness_c ((x1 + (1 : Int32)).toNatClampNeg)) z6.1 z6.2.1 z6.2.2 hc7) (mk_mk rfl rfl rfl rfl) (cwV 2 hts (gz_V mw_3_124 mw_3_125 mw_3_126 mw_1_7 mw_3_127) rfl rfl rfl hdV_X6_putBackward ⟨Nat.le_of_ble_eq_true rfl, Nat.le_of_ble_eq_true rfl⟩) hK hG (ga_28 g _) rfl rfl rfl hl.1 rfl (Nat.le_of_ble_eq_true rfl) dX8_take_114 (fun H locs hG => ?_)
      refine W.eq (g2 := F0 m 117 ls [.int z6.1]) rfl ?_
      refine lv_pop hx hb dX8_take_117 rfl ?_
      refine lv_iinc (v := (x1 + (1 : Int32))) (lv' := [(1, .int (x1 + (1 : Int32))), (0, .ref (g.2.1 0))]) hx hb dX8_take_118 hl (k := 1) rfl (congrArg (fun z => x1 + z) (by decide)) (Nat.le_of_ble_eq_true rfl) rfl (fun ls hl => ?_)
      refine lv_goto (tgt := 67) hx hb dX8_take_121 (by decide) ?_
      exact hk67 (x1 + (1 : Int32)) v_likeness_clashFrom v_likeness_clashTo v_likeness_holds v_likeness_ready z6.2.1 v_told_length v_ways_far v_ways_ready v_ways_size v_ways_whole v_likeness_a v_likeness_b v_likeness_c z3.2.2 z6.2.2 v_ways_layers v_ways_reached v_ways_steps _ _ _ (lv_sub hl [1, 0] rfl) hG h
  have l67 : ∀  (F : Nat) (x1 : Int32) (v_likeness_clashFrom : Int32) (v_likeness_clashTo : Int32) (v_likeness_holds : Int32) (v_likeness_ready : Int32) (v_told_judged : Int32) (v_told_length : Int32) (v_ways_far : Int32) (v_ways_ready : Int32) (v_ways_size : Int32) (v_ways_whole : Int32) (v_likeness_a : Nat → Int32) (v_likeness_b : Nat → Int32) (v_likeness_c : Nat → Int32) (v_told_b : Nat → Int32) (v_told_c : Nat → Int32) (v_ways_layers : Nat → Int32) (v_ways_reached : Nat → Int32) (v_ways_steps : Nat → Int32) (H : Heap) (locs : List Loc) (ls : Array Slot), lv_has ls 2 [(0, .ref (g.2.1 0)), (1, .int x1)] → GW g s (mkS σ [(1541, v_likeness_clashFrom), (1542, v_likeness_clashTo), (1540, v_likeness_holds), (1539, v_likeness_ready), (1804, v_told_judged), (1800, v_told_length), (1286, v_ways_far), (1283, v_ways_ready), (1285, v_ways_size), (1284, v_ways_whole)] [] [(26, v_likeness_a), (27, v_likeness_b), (25, v_likeness_c), (29, v_told_b), (30, v_told_c), (22, v_ways_layers), (23, v_ways_reached), (21, v_ways_steps)] []) H locs → LN_take_l67 F x1 v_likeness_clashFrom v_likeness_clashTo v_likeness_holds v_likeness_ready v_told_judged v_told_length v_ways_far v_ways_ready v_ways_size v_ways_whole v_likeness_a v_likeness_b v_likeness_c v_told_b v_told_c v_ways_layers v_ways_reached v_ways_steps = some (r, w_likeness_clashFrom, w_likeness_clashTo, w_likeness_holds, w_likeness_ready, w_told_judged, w_told_length, w_ways_far, w_ways_ready, w_ways_size, w_ways_whole, w_likeness_a, w_likeness_b, w_likeness_c, w_told_b, w_told_c, w_ways_layers, w_ways_reached, w_ways_steps) → Wg p l e 6 134 s m args below meth c g (some (.int r)) (mkS σ [(1541, w_likeness_clashFrom), (1542, w_likeness_clashTo), (1540, w_likeness_holds), (1539, w_likeness_ready), (1804, w_told_judged), (1800, w_told_length), (1286, w_ways_far), (1283, w_ways_ready), (1285, w_ways_size), (1284, w_ways_whole)] [] [(26, w_likeness_a), (27, w_likeness_b), (25, w_likeness_c), (29, w_told_b), (30, w_told_c), (22, w_ways_layers), (23, w_ways_reached), (21, w_ways_steps)] []) H locs (F0 m 67 ls []) := by
    intro F
    induction F with
    | zero => intro x1 v_likeness_clashFrom v_likeness_clashTo v_likeness_holds v_likeness_ready v_told_judged v_told_length v_ways_far v_ways_ready v_ways_size v_ways_whole v_likeness_a v_likeness_b v_likeness_c v_told_b v_told_c v_ways_layers v_ways_reached v_ways_steps H locs ls hl hG h; exact no_some h
    | succ F ih => intro x1 v_likeness_clashFrom v_likeness_clashTo v_likeness_holds v_likeness_ready v_told_judged v_told_length v_ways_far v_ways_ready v_ways_size v_ways_whole v_likeness_a v_likeness_b v_likeness_c v_told_b v_told_c v_ways_layers v_ways_reached v_ways_steps H locs ls hl hG h; exact n67 (fun x1 v_likeness_clashFrom v_likeness_clashTo v_likeness_holds v_likeness_ready v_told_judged v_told_length v_ways_far v_ways_ready v_ways_size v_ways_whole v_likeness_a v_likeness_b v_likeness_c v_told_b v_told_c v_ways_layers v_ways_reached v_ways_steps => LN_take_l67 F x1 v_likeness_clashFrom v_likeness_clashTo v_likeness_holds v_likeness_ready v_told_judged v_told_length v_ways_far v_ways_ready v_ways_size v_ways_whole v_likeness_a v_likeness_b v_likeness_c v_told_b v_told_c v_ways_layers v_ways_reached v_ways_steps) ih x1 v_likeness_clashFrom v_likeness_clashTo v_likeness_holds v_likeness_ready v_told_judged v_told_length v_ways_far v_ways_ready v_ways_size v_ways_whole v_likeness_a v_likeness_b v_likeness_c v_told_b v_told_c v_ways_layers v_ways_reached v_ways_steps H locs ls hl hG h
  refine lv_aload_n hx hb dX8_take_0 rfl (lv_at hl 0 rfl) ?_
  obtain ⟨z8, hc9, h⟩ := bnd_some h
  refine gx_cV (σ' := (mkS σ [(1541, z8.2.1), (1542, z8.2.2.1), (1540, z8.2.2.2.1), (1539, z8.2.2.2.2.1), (1804, (σ.1 1804)), (1800, (σ.1 1800)), (1286, z8.2.2.2.2.2.1), (1283, z8.2.2.2.2.2.2.1), (1285, z8.2.2.2.2.2.2.2.1), (1284, z8.2.2.2.2.2.2.2.2.1)] [] [(26, z8.2.2.2.2.2.2.2.2.2.1), (27, z8.2.2.2.2.2.2.2.2.2.2.1), (25, z8.2.2.2.2.2.2.2.2.2.2.2.1), (29, (σ.2.2.1 29)), (30, (σ.2.2.1 30)), (22, z8.2.2.2.2.2.2.2.2.2.2.2.2.1), (23, z8.2.2.2.2.2.2.2.2.2.2.2.2.2.1), (21, z8.2.2.2.2.2.2.2.2.2.2.2.2.2.2)] [])) (r := (some (.int z8.1))) (rest := []) (As := []) hS9 (c_LN_isLike l g (mkS σ [(1541, (σ.1 1541)), (1542, (σ.1 1542)), (1540, (σ.1 1540)), (1539, (σ.1 1539)), (1804, (σ.1 1804)), (1800, (σ.1 1800)), (1286, (σ.1 1286)), (1283, (σ.1 1283)), (1285, (σ.1 1285)), (1284, (σ.1 1284))] [] [(26, (σ.2.2.1 26)), (27, (σ.2.2.1 27)), (25, (σ.2.2.1 25)), (29, (σ.2.2.1 29)), (30, (σ.2.2.1 30)), (22, (σ.2.2.1 22)), (23, (σ.2.2.1 23)), (21, (σ.2.2.1 21))] []) z8.1 z8.2.1 z8.2.2.1 z8.2.2.2.1 z8.2.2.2.2.1 z8.2.2.2.2.2.1 z8.2.2.2.2.2.2.1 z8.2.2.2.2.2.2.2.1 z8.2.2.2.2.2.2.2.2.1 z8.2.2.2.2.2.2.2.2.2.1 z8.2.2.2.2.2.2.2.2.2.2.1 z8.2.2.2.2.2.2.2.2.2.2.2.1 z8.2.2.2.2.2.2.2.2.2.2.2.2.1 z8.2.2.2.2.2.2.2.2.2.2.2.2.2.1 z8.2.2.2.2.2.2.2.2.2.2.2.2.2.2 hc9) (mk_mk rfl rfl rfl rfl) (cwV 0 hts (gz_V mw_3_82 mw_3_84 ms_1_10 mw_1_1 mw_3_85) rfl rfl rfl hdV_X8_isLike ⟨Nat.le_of_ble_eq_true rfl, Nat.le_of_ble_eq_true rfl⟩) hK hG (ga_0 g _) rfl rfl rfl hl.1 rfl (Nat.le_of_ble_eq_true rfl) dX8_take_1 (fun H locs hG => ?_)
  refine W.eq (g2 := F0 m 4 ls [.int z8.1]) rfl ?_
  refine lv_if_eq (tgt := 48) hx hb dX8_take_4 (by decide) (fun c10 => ?_) (fun c10 => ?_)
  · have h := ite_t c10 h
    exact n48 z8.2.1 z8.2.2.1 z8.2.2.2.1 z8.2.2.2.2.1 (σ.1 1804) (σ.1 1800) z8.2.2.2.2.2.1 z8.2.2.2.2.2.2.1 z8.2.2.2.2.2.2.2.1 z8.2.2.2.2.2.2.2.2.1 z8.2.2.2.2.2.2.2.2.2.1 z8.2.2.2.2.2.2.2.2.2.2.1 z8.2.2.2.2.2.2.2.2.2.2.2.1 (σ.2.2.1 29) (σ.2.2.1 30) z8.2.2.2.2.2.2.2.2.2.2.2.2.1 z8.2.2.2.2.2.2.2.2.2.2.2.2.2.1 z8.2.2.2.2.2.2.2.2.2.2.2.2.2.2 _ _ _ (lv_sub hl [] rfl) hG h
  · have h := ite_f c10 h
    refine lv_aload_n hx hb dX8_take_7 rfl (lv_at hl 0 rfl) ?_
    refine gx_get (v := .ref (g.2.1 20)) (C := RX8) (T := TX8) (N := 13) hx hb hts mc_X8 hown hK hG (ga_0 g _) rfl 7 (by decide) hw2 rfl rfl dX8_take_8 ?_
    refine gx_get (v := .int z8.2.2.2.2.2.1) (C := RX7) (T := TX7) (N := 7) hx hb hts mc_X7 hown hK hG (ga_20 g _) rfl 6 (by decide) hw3 rfl rfl dX8_take_11 ?_
    refine lv_iconst (v := (1 : Int32)) hx hb dX8_take_14 (by decide) ?_
    refine lv_icmp_lt (tgt := 48) hx hb dX8_take_15 (by decide) (fun c11 => ?_) (fun c11 => ?_)
    · have h := ite_t c11 h
      exact n48 z8.2.1 z8.2.2.1 z8.2.2.2.1 z8.2.2.2.2.1 (σ.1 1804) (σ.1 1800) z8.2.2.2.2.2.1 z8.2.2.2.2.2.2.1 z8.2.2.2.2.2.2.2.1 z8.2.2.2.2.2.2.2.2.1 z8.2.2.2.2.2.2.2.2.2.1 z8.2.2.2.2.2.2.2.2.2.2.1 z8.2.2.2.2.2.2.2.2.2.2.2.1 (σ.2.2.1 29) (σ.2.2.1 30) z8.2.2.2.2.2.2.2.2.2.2.2.2.1 z8.2.2.2.2.2.2.2.2.2.2.2.2.2.1 z8.2.2.2.2.2.2.2.2.2.2.2.2.2.2 _ _ _ (lv_sub hl [] rfl) hG h
    · have h := ite_f c11 h
      refine lv_aload_n hx hb dX8_take_18 rfl (lv_at hl 0 rfl) ?_
      refine gx_get (v := .ref (g.2.1 20)) (C := RX8) (T := TX8) (N := 13) hx hb hts mc_X8 hown hK hG (ga_0 g _) rfl 7 (by decide) hw2 rfl rfl dX8_take_19 ?_
      refine gx_get (v := .int z8.2.2.2.2.2.1) (C := RX7) (T := TX7) (N := 7) hx hb hts mc_X7 hown hK hG (ga_20 g _) rfl 6 (by decide) hw3 rfl rfl dX8_take_22 ?_
      refine lv_iconst (v := (5 : Int32)) hx hb dX8_take_25 (by decide) ?_
      refine lv_icmp_gt (tgt := 48) hx hb dX8_take_26 (by decide) (fun c12 => ?_) (fun c12 => ?_)
      · have h := ite_t c12 h
        exact n48 z8.2.1 z8.2.2.1 z8.2.2.2.1 z8.2.2.2.2.1 (σ.1 1804) (σ.1 1800) z8.2.2.2.2.2.1 z8.2.2.2.2.2.2.1 z8.2.2.2.2.2.2.2.1 z8.2.2.2.2.2.2.2.2.1 z8.2.2.2.2.2.2.2.2.2.1 z8.2.2.2.2.2.2.2.2.2.2.1 z8.2.2.2.2.2.2.2.2.2.2.2.1 (σ.2.2.1 29) (σ.2.2.1 30) z8.2.2.2.2.2.2.2.2.2.2.2.2.1 z8.2.2.2.2.2.2.2.2.2.2.2.2.2.1 z8.2.2.2.2.2.2.2.2.2.2.2.2.2.2 _ _ _ (lv_sub hl [] rfl) hG h
      · have h := ite_f c12 h
        refine lv_aload_n hx hb dX8_take_29 rfl (lv_at hl 0 rfl) ?_
        refine gx_get (v := .ref (g.2.1 24)) (C := RX8) (T := TX8) (N := 13) hx hb hts mc_X8 hown hK hG (ga_0 g _) rfl 8 (by decide) hw4 rfl rfl dX8_take_30 ?_
        refine lv_aload_n hx hb dX8_take_33 rfl (lv_at hl 0 rfl) ?_
        refine gx_get (v := .ref (g.2.1 20)) (C := RX8) (T := TX8) (N := 13) hx hb hts mc_X8 hown hK hG (ga_0 g _) rfl 7 (by decide) hw2 rfl rfl dX8_take_34 ?_
        refine gx_get (v := .int z8.2.2.2.2.2.1) (C := RX7) (T := TX7) (N := 7) hx hb hts mc_X7 hown hK hG (ga_20 g _) rfl 6 (by decide) hw3 rfl rfl dX8_take_37 ?_
        refine lv_bipush (v := (20 : Int32)) hx hb dX8_take_40 (by decide) ?_
        obtain ⟨z13, hc14, h⟩ := bnd_some h
        refine gx_cV (σ' := (mkS σ [(1541, z8.2.1), (1542, z8.2.2.1), (1540, z8.2.2.2.1), (1539, z8.2.2.2.2.1), (1804, (σ.1 1804)), (1800, (σ.1 1800)), (1286, z8.2.2.2.2.2.1), (1283, z8.2.2.2.2.2.2.1), (1285, z8.2.2.2.2.2.2.2.1), (1284, z8.2.2.2.2.2.2.2.2.1)] [] [(26, z8.2.2.2.2.2.2.2.2.2.1), (27, z8.2.2.2.2.2.2.2.2.2.2.1), (25, z8.2.2.2.2.2.2.2.2.2.2.2.1), (29, (σ.2.2.1 29)), (30, (σ.2.2.1 30)), (22, z8.2.2.2.2.2.2.2.2.2.2.2.2.1), (23, z8.2.2.2.2.2.2.2.2.2.2.2.2.2.1), (21, z8.2.2.2.2.2.2.2.2.2.2.2.2.2.2)] [])) (r := (some (.int z13))) (rest := []) (As := [.int z8.2.2.2.2.2.1, .int (20 : Int32)]) hS9 (c_Lk_isAtMost l g (mkS σ [(1541, z8.2.1), (1542, z8.2.2.1), (1540, z8.2.2.2.1), (1539, z8.2.2.2.2.1), (1804, (σ.1 1804)), (1800, (σ.1 1800)), (1286, z8.2.2.2.2.2.1), (1283, z8.2.2.2.2.2.2.1), (1285, z8.2.2.2.2.2.2.2.1), (1284, z8.2.2.2.2.2.2.2.2.1)] [] [(26, z8.2.2.2.2.2.2.2.2.2.1), (27, z8.2.2.2.2.2.2.2.2.2.2.1), (25, z8.2.2.2.2.2.2.2.2.2.2.2.1), (29, (σ.2.2.1 29)), (30, (σ.2.2.1 30)), (22, z8.2.2.2.2.2.2.2.2.2.2.2.2.1), (23, z8.2.2.2.2.2.2.2.2.2.2.2.2.2.1), (21, z8.2.2.2.2.2.2.2.2.2.2.2.2.2.2)] []) z8.2.2.2.2.2.1 (20 : Int32) z13 hc14) rfl (cwV 2 hts (gz_V mw_3_132 mw_3_133 mw_3_134 mw_1_6 mw_3_135) rfl rfl rfl hdV_X0_isAtMost ⟨Nat.le_of_ble_eq_true rfl, Nat.le_of_ble_eq_true rfl⟩) hK hG (ga_24 g _) rfl rfl rfl hl.1 rfl (Nat.le_of_ble_eq_true rfl) dX8_take_42 (fun H locs hG => ?_)
        refine W.eq (g2 := F0 m 45 ls [.int z13]) rfl ?_
        refine lv_if_ne (tgt := 51) hx hb dX8_take_45 (by decide) (fun c15 => ?_) (fun c15 => ?_)
        · have h := ite_f c15 h
          refine lv_aload_n hx hb dX8_take_51 rfl (lv_at hl 0 rfl) ?_
          refine gx_get (v := .ref (g.2.1 28)) (C := RX8) (T := TX8) (N := 13) hx hb hts mc_X8 hown hK hG (ga_0 g _) rfl 9 (by decide) hw0 rfl rfl dX8_take_52 ?_
          refine lv_aload_n hx hb dX8_take_55 rfl (lv_at hl 0 rfl) ?_
          refine gx_get (v := .ref (g.2.1 20)) (C := RX8) (T := TX8) (N := 13) hx hb hts mc_X8 hown hK hG (ga_0 g _) rfl 7 (by decide) hw2 rfl rfl dX8_take_56 ?_
          refine gx_get (v := .int z8.2.2.2.2.2.1) (C := RX7) (T := TX7) (N := 7) hx hb hts mc_X7 hown hK hG (ga_20 g _) rfl 6 (by decide) hw3 rfl rfl dX8_take_59 ?_
          obtain ⟨z16, hc17, h⟩ := bnd_some h
          refine gx_cV (σ' := (mkS σ [(1541, z8.2.1), (1542, z8.2.2.1), (1540, z8.2.2.2.1), (1539, z8.2.2.2.2.1), (1804, z16.1), (1800, z16.2.1), (1286, z8.2.2.2.2.2.1), (1283, z8.2.2.2.2.2.2.1), (1285, z8.2.2.2.2.2.2.2.1), (1284, z8.2.2.2.2.2.2.2.2.1)] [] [(26, z8.2.2.2.2.2.2.2.2.2.1), (27, z8.2.2.2.2.2.2.2.2.2.2.1), (25, z8.2.2.2.2.2.2.2.2.2.2.2.1), (29, z16.2.2.1), (30, z16.2.2.2), (22, z8.2.2.2.2.2.2.2.2.2.2.2.2.1), (23, z8.2.2.2.2.2.2.2.2.2.2.2.2.2.1), (21, z8.2.2.2.2.2.2.2.2.2.2.2.2.2.2)] [])) (r := none) (rest := []) (As := [.int z8.2.2.2.2.2.1]) hS9 (c_Td_lay l g (mkS σ [(1541, z8.2.1), (1542, z8.2.2.1), (1540, z8.2.2.2.1), (1539, z8.2.2.2.2.1), (1804, (σ.1 1804)), (1800, (σ.1 1800)), (1286, z8.2.2.2.2.2.1), (1283, z8.2.2.2.2.2.2.1), (1285, z8.2.2.2.2.2.2.2.1), (1284, z8.2.2.2.2.2.2.2.2.1)] [] [(26, z8.2.2.2.2.2.2.2.2.2.1), (27, z8.2.2.2.2.2.2.2.2.2.2.1), (25, z8.2.2.2.2.2.2.2.2.2.2.2.1), (29, (σ.2.2.1 29)), (30, (σ.2.2.1 30)), (22, z8.2.2.2.2.2.2.2.2.2.2.2.2.1), (23, z8.2.2.2.2.2.2.2.2.2.2.2.2.2.1), (21, z8.2.2.2.2.2.2.2.2.2.2.2.2.2.2)] []) z8.2.2.2.2.2.1 z16.1 z16.2.1 z16.2.2.1 z16.2.2.2 hc17) (mk_mk rfl rfl rfl rfl) (cwV 1 hts (gz_V mw_3_115 mw_1_151 mw_1_152 mw_1_7 mw_1_153) rfl rfl rfl hdV_X6_lay ⟨Nat.le_of_ble_eq_true rfl, Nat.le_of_ble_eq_true rfl⟩) hK hG (ga_28 g _) rfl rfl rfl hl.1 rfl (Nat.le_of_ble_eq_true rfl) dX8_take_62 (fun H locs hG => ?_)
          refine W.eq (g2 := F0 m 65 ls []) rfl ?_
          refine lv_iconst (v := (0 : Int32)) hx hb dX8_take_65 (by decide) ?_
          refine lv_istore_n (lv' := [(1, .int (0 : Int32)), (0, .ref (g.2.1 0))]) hx hb dX8_take_66 rfl hl (Nat.le_of_ble_eq_true rfl) rfl (fun ls hl => ?_)
          exact l67 FUEL (0 : Int32) z8.2.1 z8.2.2.1 z8.2.2.2.1 z8.2.2.2.2.1 z16.1 z16.2.1 z8.2.2.2.2.2.1 z8.2.2.2.2.2.2.1 z8.2.2.2.2.2.2.2.1 z8.2.2.2.2.2.2.2.2.1 z8.2.2.2.2.2.2.2.2.2.1 z8.2.2.2.2.2.2.2.2.2.2.1 z8.2.2.2.2.2.2.2.2.2.2.2.1 z16.2.2.1 z16.2.2.2 z8.2.2.2.2.2.2.2.2.2.2.2.2.1 z8.2.2.2.2.2.2.2.2.2.2.2.2.2.1 z8.2.2.2.2.2.2.2.2.2.2.2.2.2.2 _ _ _ (lv_sub hl [1, 0] rfl) hG h
        · have h := ite_t c15 h
          exact n48 z8.2.1 z8.2.2.1 z8.2.2.2.1 z8.2.2.2.2.1 (σ.1 1804) (σ.1 1800) z8.2.2.2.2.2.1 z8.2.2.2.2.2.2.1 z8.2.2.2.2.2.2.2.1 z8.2.2.2.2.2.2.2.2.1 z8.2.2.2.2.2.2.2.2.2.1 z8.2.2.2.2.2.2.2.2.2.2.1 z8.2.2.2.2.2.2.2.2.2.2.2.1 (σ.2.2.1 29) (σ.2.2.1 30) z8.2.2.2.2.2.2.2.2.2.2.2.2.1 z8.2.2.2.2.2.2.2.2.2.2.2.2.2.1 z8.2.2.2.2.2.2.2.2.2.2.2.2.2.2 _ _ _ (lv_sub hl [] rfl) hG h

