set_option maxHeartbeats 4000000 in
set_option maxRecDepth 100000 in
theorem c_LN_tell (l : Launch) (g : GC) (σ : St) (x1 : Int32) (r : Int32) (w_told_judged : Int32) (w_told_length : Int32) (w_told_b : Nat → Int32) (w_told_c : Nat → Int32) (h : LN_tell x1 (σ.1 1804) (σ.1 1800) (σ.2.2.1 29) (σ.2.2.1 30) = some (r, w_told_judged, w_told_length, w_told_b, w_told_c)) : Cn l g yX8_tell (Cond.code yX8_tell cX8_tell 2 (some .int) :: wG) 2 45 [.ref (g.2.1 0), .int x1] σ (some (.int r)) (mkS σ [(1804, w_told_judged), (1800, w_told_length)] [] [(29, w_told_b), (30, w_told_c)] []) := by
  unfold Cn
  refine Met.ofW (cc := cX8_tell) (maxL := 2) (ret := (some .int)) (by decide) rfl ?_
  intro p e s m args below meth c s₁ B hml hv
  obtain ⟨hargs, hP0, hK⟩ := hv
  have hx := B.exec
  have hb := B.bytes
  have hr := B.returns
  have hts : ∀ w ∈ wG, w.before args s = true := fun w h => atoms_spec (ws := (Cond.code yX8_tell cX8_tell 2 (some .int) :: wG)) B.pre w (List.mem_cons_of_mem _ h)
  have hown : s.vm.findClass RX8 = some m.cls := findClass_of_methodNamed B.named
  have hlocks := B.notSynchronized
  have hS9 : CallFix p m c cX8_tell 2 s args wG RX8 := ⟨hx, hb, hml, hown, hts⟩
  have hw0 := hts _ mw_2_46
  have hf9 : entryFrame m args 2 = _ := (congrArg (fun a => entryFrame m a 2) hargs).trans (lg_entry_eq m [.ref (g.2.1 0), .int x1] 2)
  show Wg p l e 2 45 s m args below meth c g (some (.int r)) (mkS σ [(1804, w_told_judged), (1800, w_told_length)] [] [(29, w_told_b), (30, w_told_c)] []) s.heap [] (entryFrame m args 2)
  rw [hf9]
  have hl := lv_entry ([.ref (g.2.1 0), .int x1]) (n := 2) (Nat.le_of_ble_eq_true rfl)
  generalize (lg_sl ([.ref (g.2.1 0), .int x1]) ++ List.replicate (2 - (lg_sl ([.ref (g.2.1 0), .int x1])).length) Slot.unset).toArray = ls at hl ⊢
  have hl : lv_has ls 2 [(0, .ref (g.2.1 0)), (1, .int x1)] := hl
  have hG : GW g s σ s.heap [] := ⟨hP0, va_S.rf⟩
  have hG : GW g s (mkS σ [(1804, (σ.1 1804)), (1800, (σ.1 1800))] [] [(29, (σ.2.2.1 29)), (30, (σ.2.2.1 30))] []) s.heap [] := GW_self [1804, 1800] [] [29, 30] [] hG
  unfold LN_tell at h
  have n10 : ∀ (v_told_judged : Int32) (v_told_length : Int32) (v_told_b : Nat → Int32) (v_told_c : Nat → Int32) (H : Heap) (locs : List Loc) (ls : Array Slot), lv_has ls 2 [] → GW g s (mkS σ [(1804, v_told_judged), (1800, v_told_length)] [] [(29, v_told_b), (30, v_told_c)] []) H locs → LN_tell_n10 v_told_judged v_told_length v_told_b v_told_c = some (r, w_told_judged, w_told_length, w_told_b, w_told_c) → Wg p l e 2 45 s m args below meth c g (some (.int r)) (mkS σ [(1804, w_told_judged), (1800, w_told_length)] [] [(29, w_told_b), (30, w_told_c)] []) H locs (F0 m 10 ls []) := by
    intro v_told_judged v_told_length v_told_b v_told_c H locs ls hl hG h
    unfold LN_tell_n10 at h
    refine lv_iconst (v := (-1 : Int32)) hx hb dX8_tell_10 (by decide) ?_
    cases h
    exact gx_iret hx hb hr hlocks hG dX8_tell_11
  refine lv_iload_n hx hb dX8_tell_0 rfl (lv_at hl 1 rfl) ?_
  refine lv_iconst (v := (1 : Int32)) hx hb dX8_tell_1 (by decide) ?_
  refine lv_icmp_lt (tgt := 10) hx hb dX8_tell_2 (by decide) (fun c1 => ?_) (fun c1 => ?_)
  · have h := ite_t c1 h
    exact n10 (σ.1 1804) (σ.1 1800) (σ.2.2.1 29) (σ.2.2.1 30) _ _ _ (lv_sub hl [] rfl) hG h
  · have h := ite_f c1 h
    refine lv_iload_n hx hb dX8_tell_5 rfl (lv_at hl 1 rfl) ?_
    refine lv_iconst (v := (5 : Int32)) hx hb dX8_tell_6 (by decide) ?_
    refine lv_icmp_le (tgt := 12) hx hb dX8_tell_7 (by decide) (fun c2 => ?_) (fun c2 => ?_)
    · have h := ite_t c2 h
      refine lv_aload_n hx hb dX8_tell_12 rfl (lv_at hl 0 rfl) ?_
      refine gx_get (v := .ref (g.2.1 28)) (C := RX8) (T := TX8) (N := 13) hx hb hts mc_X8 hown hK hG (ga_0 g _) rfl 9 (by decide) hw0 rfl rfl dX8_tell_13 ?_
      refine lv_iload_n hx hb dX8_tell_16 rfl (lv_at hl 1 rfl) ?_
      obtain ⟨z3, hc4, h⟩ := bnd_some h
      refine gx_cV (σ' := (mkS σ [(1804, z3.1), (1800, z3.2.1)] [] [(29, z3.2.2.1), (30, z3.2.2.2)] [])) (r := none) (rest := []) (As := [.int x1]) hS9 (c_Td_lay l g (mkS σ [(1804, (σ.1 1804)), (1800, (σ.1 1800))] [] [(29, (σ.2.2.1 29)), (30, (σ.2.2.1 30))] []) x1 z3.1 z3.2.1 z3.2.2.1 z3.2.2.2 hc4) (mk_mk rfl rfl rfl rfl) (cwV 1 hts (gz_V mw_3_115 mw_1_151 mw_1_152 mw_1_7 mw_1_153) rfl rfl rfl hdV_X6_lay ⟨Nat.le_of_ble_eq_true rfl, Nat.le_of_ble_eq_true rfl⟩) hK hG (ga_28 g _) rfl rfl rfl hl.1 rfl (Nat.le_of_ble_eq_true rfl) dX8_tell_17 (fun H locs hG => ?_)
      refine W.eq (g2 := F0 m 20 ls []) rfl ?_
      refine lv_iconst (v := (1 : Int32)) hx hb dX8_tell_20 (by decide) ?_
      cases h
      exact gx_iret hx hb hr hlocks hG dX8_tell_21
    · have h := ite_f c2 h
      exact n10 (σ.1 1804) (σ.1 1800) (σ.2.2.1 29) (σ.2.2.1 30) _ _ _ (lv_sub hl [] rfl) hG h

set_option maxHeartbeats 4000000 in
set_option maxRecDepth 100000 in
theorem c_LN_third (l : Launch) (g : GC) (σ : St) (x1 : Int32) (x2 : Int32) (x3 : Int32) (r : Int32) (w_told_broken : Int32) (w_told_judged : Int32) (w_told_rootCount : Int32) (w_told_total : Int64) (w_told_roots : Nat → Int32) (w_told_times : Nat → Int32) (w_told_k : Nat → Int64) (w_told_scaled : Nat → Int64) (w_told_t : Nat → Int64) (h : LN_third x1 x2 x3 (σ.1 1802) (σ.1 1804) (σ.1 1800) (σ.1 1801) (σ.2.1 1803) (σ.2.2.1 29) (σ.2.2.1 30) (σ.2.2.1 35) (σ.2.2.1 36) (σ.2.2.2 31) (σ.2.2.2 33) (σ.2.2.2 32) = some (r, w_told_broken, w_told_judged, w_told_rootCount, w_told_total, w_told_roots, w_told_times, w_told_k, w_told_scaled, w_told_t)) : Cn l g yX8_third (Cond.code yX8_third cX8_third 4 (some .int) :: wG) 6 134 [.ref (g.2.1 0), .int x1, .int x2, .int x3] σ (some (.int r)) (mkS σ [(1802, w_told_broken), (1804, w_told_judged), (1801, w_told_rootCount)] [(1803, w_told_total)] [(35, w_told_roots), (36, w_told_times)] [(31, w_told_k), (33, w_told_scaled), (32, w_told_t)]) := by
  unfold Cn
  refine Met.ofW (cc := cX8_third) (maxL := 4) (ret := (some .int)) (by decide) rfl ?_
  intro p e s m args below meth c s₁ B hml hv
  obtain ⟨hargs, hP0, hK⟩ := hv
  have hx := B.exec
  have hb := B.bytes
  have hr := B.returns
  have hts : ∀ w ∈ wG, w.before args s = true := fun w h => atoms_spec (ws := (Cond.code yX8_third cX8_third 4 (some .int) :: wG)) B.pre w (List.mem_cons_of_mem _ h)
  have hown : s.vm.findClass RX8 = some m.cls := findClass_of_methodNamed B.named
  have hlocks := B.notSynchronized
  have hS9 : CallFix p m c cX8_third 4 s args wG RX8 := ⟨hx, hb, hml, hown, hts⟩
  have hw0 := hts _ mw_2_46
  have hw1 := hts _ mw_1_164
  have hf9 : entryFrame m args 4 = _ := (congrArg (fun a => entryFrame m a 4) hargs).trans (lg_entry_eq m [.ref (g.2.1 0), .int x1, .int x2, .int x3] 4)
  show Wg p l e 6 134 s m args below meth c g (some (.int r)) (mkS σ [(1802, w_told_broken), (1804, w_told_judged), (1801, w_told_rootCount)] [(1803, w_told_total)] [(35, w_told_roots), (36, w_told_times)] [(31, w_told_k), (33, w_told_scaled), (32, w_told_t)]) s.heap [] (entryFrame m args 4)
  rw [hf9]
  have hl := lv_entry ([.ref (g.2.1 0), .int x1, .int x2, .int x3]) (n := 4) (Nat.le_of_ble_eq_true rfl)
  generalize (lg_sl ([.ref (g.2.1 0), .int x1, .int x2, .int x3]) ++ List.replicate (4 - (lg_sl ([.ref (g.2.1 0), .int x1, .int x2, .int x3])).length) Slot.unset).toArray = ls at hl ⊢
  have hl : lv_has ls 4 [(0, .ref (g.2.1 0)), (1, .int x1), (2, .int x2), (3, .int x3)] := hl
  have hG : GW g s σ s.heap [] := ⟨hP0, va_S.rf⟩
  have hG : GW g s (mkS σ [(1802, (σ.1 1802)), (1804, (σ.1 1804)), (1801, (σ.1 1801))] [(1803, (σ.2.1 1803))] [(35, (σ.2.2.1 35)), (36, (σ.2.2.1 36))] [(31, (σ.2.2.2 31)), (33, (σ.2.2.2 33)), (32, (σ.2.2.2 32))]) s.heap [] := GW_self [1802, 1804, 1801] [1803] [35, 36] [31, 33, 32] hG
  unfold LN_third at h
  have n33 : ∀ (v_told_broken : Int32) (v_told_judged : Int32) (v_told_rootCount : Int32) (v_told_total : Int64) (v_told_roots : Nat → Int32) (v_told_times : Nat → Int32) (v_told_k : Nat → Int64) (v_told_scaled : Nat → Int64) (v_told_t : Nat → Int64) (H : Heap) (locs : List Loc) (ls : Array Slot), lv_has ls 4 [] → GW g s (mkS σ [(1802, v_told_broken), (1804, v_told_judged), (1801, v_told_rootCount)] [(1803, v_told_total)] [(35, v_told_roots), (36, v_told_times)] [(31, v_told_k), (33, v_told_scaled), (32, v_told_t)]) H locs → LN_third_n33 v_told_broken v_told_judged v_told_rootCount v_told_total v_told_roots v_told_times v_told_k v_told_scaled v_told_t = some (r, w_told_broken, w_told_judged, w_told_rootCount, w_told_total, w_told_roots, w_told_times, w_told_k, w_told_scaled, w_told_t) → Wg p l e 6 134 s m args below meth c g (some (.int r)) (mkS σ [(1802, w_told_broken), (1804, w_told_judged), (1801, w_told_rootCount)] [(1803, w_told_total)] [(35, w_told_roots), (36, w_told_times)] [(31, w_told_k), (33, w_told_scaled), (32, w_told_t)]) H locs (F0 m 33 ls []) := by
    intro v_told_broken v_told_judged v_told_rootCount v_told_total v_told_roots v_told_times v_told_k v_told_scaled v_told_t H locs ls hl hG h
    unfold LN_third_n33 at h
    refine lv_iconst (v := (-1 : Int32)) hx hb dX8_third_33 (by decide) ?_
    cases h
    exact gx_iret hx hb hr hlocks hG dX8_third_34
  have n67 : ∀ (t0 : Int32) (v_told_broken : Int32) (v_told_judged : Int32) (v_told_rootCount : Int32) (v_told_total : Int64) (v_told_roots : Nat → Int32) (v_told_times : Nat → Int32) (v_told_k : Nat → Int64) (v_told_scaled : Nat → Int64) (v_told_t : Nat → Int64) (H : Heap) (locs : List Loc) (ls : Array Slot), lv_has ls 4 [] → GW g s (mkS σ [(1802, v_told_broken), (1804, v_told_judged), (1801, v_told_rootCount)] [(1803, v_told_total)] [(35, v_told_roots), (36, v_told_times)] [(31, v_told_k), (33, v_told_scaled), (32, v_told_t)]) H locs → LN_third_n67 t0 v_told_broken v_told_judged v_told_rootCount v_told_total v_told_roots v_told_times v_told_k v_told_scaled v_told_t = some (r, w_told_broken, w_told_judged, w_told_rootCount, w_told_total, w_told_roots, w_told_times, w_told_k, w_told_scaled, w_told_t) → Wg p l e 6 134 s m args below meth c g (some (.int r)) (mkS σ [(1802, w_told_broken), (1804, w_told_judged), (1801, w_told_rootCount)] [(1803, w_told_total)] [(35, w_told_roots), (36, w_told_times)] [(31, w_told_k), (33, w_told_scaled), (32, w_told_t)]) H locs (F0 m 67 ls [.int t0]) := by
    intro t0 v_told_broken v_told_judged v_told_rootCount v_told_total v_told_roots v_told_times v_told_k v_told_scaled v_told_t H locs ls hl hG h
    unfold LN_third_n67 at h
    cases h
    exact gx_iret hx hb hr hlocks hG dX8_third_67
  refine lv_aload_n hx hb dX8_third_0 rfl (lv_at hl 0 rfl) ?_
  refine gx_get (v := .ref (g.2.1 28)) (C := RX8) (T := TX8) (N := 13) hx hb hts mc_X8 hown hK hG (ga_0 g _) rfl 9 (by decide) hw0 rfl rfl dX8_third_1 ?_
  refine lv_iload_n hx hb dX8_third_4 rfl (lv_at hl 1 rfl) ?_
  obtain ⟨z1, hc2, h⟩ := bnd_some h
  refine gx_cV (σ' := (mkS σ [(1802, (σ.1 1802)), (1804, (σ.1 1804)), (1801, (σ.1 1801))] [(1803, (σ.2.1 1803))] [(35, (σ.2.2.1 35)), (36, (σ.2.2.1 36))] [(31, (σ.2.2.2 31)), (33, (σ.2.2.2 33)), (32, (σ.2.2.2 32))])) (r := (some (.int z1))) (rest := []) (As := [.int x1]) hS9 (c_Td_hasRow l g (mkS σ [(1802, (σ.1 1802)), (1804, (σ.1 1804)), (1801, (σ.1 1801))] [(1803, (σ.2.1 1803))] [(35, (σ.2.2.1 35)), (36, (σ.2.2.1 36))] [(31, (σ.2.2.2 31)), (33, (σ.2.2.2 33)), (32, (σ.2.2.2 32))]) x1 z1 hc2) rfl (cwV 1 hts (gz_V mw_3_209 mw_3_210 mw_3_211 mw_1_7 mw_3_212) rfl rfl rfl hdV_X6_hasRow ⟨Nat.le_of_ble_eq_true rfl, Nat.le_of_ble_eq_true rfl⟩) hK hG (ga_28 g _) rfl rfl rfl hl.1 rfl (Nat.le_of_ble_eq_true rfl) dX8_third_5 (fun H locs hG => ?_)
  refine W.eq (g2 := F0 m 8 ls [.int z1]) rfl ?_
  refine lv_if_eq (tgt := 33) hx hb dX8_third_8 (by decide) (fun c3 => ?_) (fun c3 => ?_)
  · have h := ite_t c3 h
    exact n33 (σ.1 1802) (σ.1 1804) (σ.1 1801) (σ.2.1 1803) (σ.2.2.1 35) (σ.2.2.1 36) (σ.2.2.2 31) (σ.2.2.2 33) (σ.2.2.2 32) _ _ _ (lv_sub hl [] rfl) hG h
  · have h := ite_f c3 h
    refine lv_aload_n hx hb dX8_third_11 rfl (lv_at hl 0 rfl) ?_
    refine gx_get (v := .ref (g.2.1 28)) (C := RX8) (T := TX8) (N := 13) hx hb hts mc_X8 hown hK hG (ga_0 g _) rfl 9 (by decide) hw0 rfl rfl dX8_third_12 ?_
    refine lv_iload_n hx hb dX8_third_15 rfl (lv_at hl 2 rfl) ?_
    obtain ⟨z4, hc5, h⟩ := bnd_some h
    refine gx_cV (σ' := (mkS σ [(1802, (σ.1 1802)), (1804, (σ.1 1804)), (1801, (σ.1 1801))] [(1803, (σ.2.1 1803))] [(35, (σ.2.2.1 35)), (36, (σ.2.2.1 36))] [(31, (σ.2.2.2 31)), (33, (σ.2.2.2 33)), (32, (σ.2.2.2 32))])) (r := (some (.int z4))) (rest := []) (As := [.int x2]) hS9 (c_Td_hasRow l g (mkS σ [(1802, (σ.1 1802)), (1804, (σ.1 1804)), (1801, (σ.1 1801))] [(1803, (σ.2.1 1803))] [(35, (σ.2.2.1 35)), (36, (σ.2.2.1 36))] [(31, (σ.2.2.2 31)), (33, (σ.2.2.2 33)), (32, (σ.2.2.2 32))]) x2 z4 hc5) rfl (cwV 1 hts (gz_V mw_3_209 mw_3_210 mw_3_211 mw_1_7 mw_3_212) rfl rfl rfl hdV_X6_hasRow ⟨Nat.le_of_ble_eq_true rfl, Nat.le_of_ble_eq_true rfl⟩) hK hG (ga_28 g _) rfl rfl rfl hl.1 rfl (Nat.le_of_ble_eq_true rfl) dX8_third_16 (fun H locs hG => ?_)
    refine W.eq (g2 := F0 m 19 ls [.int z4]) rfl ?_
    refine lv_if_eq (tgt := 33) hx hb dX8_third_19 (by decide) (fun c6 => ?_) (fun c6 => ?_)
    · have h := ite_t c6 h
      exact n33 (σ.1 1802) (σ.1 1804) (σ.1 1801) (σ.2.1 1803) (σ.2.2.1 35) (σ.2.2.1 36) (σ.2.2.2 31) (σ.2.2.2 33) (σ.2.2.2 32) _ _ _ (lv_sub hl [] rfl) hG h
    · have h := ite_f c6 h
      refine lv_aload_n hx hb dX8_third_22 rfl (lv_at hl 0 rfl) ?_
      refine gx_get (v := .ref (g.2.1 28)) (C := RX8) (T := TX8) (N := 13) hx hb hts mc_X8 hown hK hG (ga_0 g _) rfl 9 (by decide) hw0 rfl rfl dX8_third_23 ?_
      refine lv_iload_n hx hb dX8_third_26 rfl (lv_at hl 3 rfl) ?_
      obtain ⟨z7, hc8, h⟩ := bnd_some h
      refine gx_cV (σ' := (mkS σ [(1802, (σ.1 1802)), (1804, (σ.1 1804)), (1801, (σ.1 1801))] [(1803, (σ.2.1 1803))] [(35, (σ.2.2.1 35)), (36, (σ.2.2.1 36))] [(31, (σ.2.2.2 31)), (33, (σ.2.2.2 33)), (32, (σ.2.2.2 32))])) (r := (some (.int z7))) (rest := []) (As := [.int x3]) hS9 (c_Td_hasRow l g (mkS σ [(1802, (σ.1 1802)), (1804, (σ.1 1804)), (1801, (σ.1 1801))] [(1803, (σ.2.1 1803))] [(35, (σ.2.2.1 35)), (36, (σ.2.2.1 36))] [(31, (σ.2.2.2 31)), (33, (σ.2.2.2 33)), (32, (σ.2.2.2 32))]) x3 z7 hc8) rfl (cwV 1 hts (gz_V mw_3_209 mw_3_210 mw_3_211 mw_1_7 mw_3_212) rfl rfl rfl hdV_X6_hasRow ⟨Nat.le_of_ble_eq_true rfl, Nat.le_of_ble_eq_true rfl⟩) hK hG (ga_28 g _) rfl rfl rfl hl.1 rfl (Nat.le_of_ble_eq_true rfl) dX8_third_27 (fun H locs hG => ?_)
      refine W.eq (g2 := F0 m 30 ls [.int z7]) rfl ?_
      refine lv_if_ne (tgt := 35) hx hb dX8_third_30 (by decide) (fun c9 => ?_) (fun c9 => ?_)
      · have h := ite_f c9 h
        refine lv_aload_n hx hb dX8_third_35 rfl (lv_at hl 0 rfl) ?_
        refine gx_get (v := .ref (g.2.1 28)) (C := RX8) (T := TX8) (N := 13) hx hb hts mc_X8 hown hK hG (ga_0 g _) rfl 9 (by decide) hw0 rfl rfl dX8_third_36 ?_
        refine lv_bipush (v := (6 : Int32)) hx hb dX8_third_39 (by decide) ?_
        obtain ⟨z10, hc11, h⟩ := bnd_some h
        refine gx_cV (σ' := (mkS σ [(1802, z10.2.1), (1804, z10.2.2.1), (1801, z10.2.2.2.1)] [(1803, z10.2.2.2.2.1)] [(35, z10.2.2.2.2.2.1), (36, z10.2.2.2.2.2.2.1)] [(31, z10.2.2.2.2.2.2.2.1), (33, z10.2.2.2.2.2.2.2.2.1), (32, z10.2.2.2.2.2.2.2.2.2)])) (r := (some (.int z10.1))) (rest := []) (As := [.int (6 : Int32)]) hS9 (c_Td_keepsLawsTo l g (mkS σ [(1802, (σ.1 1802)), (1804, (σ.1 1804)), (1801, (σ.1 1801))] [(1803, (σ.2.1 1803))] [(35, (σ.2.2.1 35)), (36, (σ.2.2.1 36))] [(31, (σ.2.2.2 31)), (33, (σ.2.2.2 33)), (32, (σ.2.2.2 32))]) (6 : Int32) z10.1 z10.2.1 z10.2.2.1 z10.2.2.2.1 z10.2.2.2.2.1 z10.2.2.2.2.2.1 z10.2.2.2.2.2.2.1 z10.2.2.2.2.2.2.2.1 z10.2.2.2.2.2.2.2.2.1 z10.2.2.2.2.2.2.2.2.2 hc11) (mk_mk rfl rfl rfl rfl) (cwV 1 hts (gz_V mw_3_213 mw_3_214 mw_3_215 mw_1_7 mw_3_216) rfl rfl rfl hdV_X6_keepsLawsTo ⟨Nat.le_of_ble_eq_true rfl, Nat.le_of_ble_eq_true rfl⟩) hK hG (ga_28 g _) rfl rfl rfl hl.1 rfl (Nat.le_of_ble_eq_true rfl) dX8_third_41 (fun H locs hG => ?_)
        refine W.eq (g2 := F0 m 44 ls [.int z10.1]) rfl ?_
        refine lv_if_eq (tgt := 65) hx hb dX8_third_44 (by decide) (fun c12 => ?_) (fun c12 => ?_)
        · have h := ite_t c12 h
          refine lv_bipush (v := (-6 : Int32)) hx hb dX8_third_65 (by decide) ?_
          exact n67 (-6 : Int32) z10.2.1 z10.2.2.1 z10.2.2.2.1 z10.2.2.2.2.1 z10.2.2.2.2.2.1 z10.2.2.2.2.2.2.1 z10.2.2.2.2.2.2.2.1 z10.2.2.2.2.2.2.2.2.1 z10.2.2.2.2.2.2.2.2.2 _ _ _ (lv_sub hl [] rfl) hG h
        · have h := ite_f c12 h
          refine lv_aload_n hx hb dX8_third_47 rfl (lv_at hl 0 rfl) ?_
          refine gx_get (v := .ref (g.2.1 28)) (C := RX8) (T := TX8) (N := 13) hx hb hts mc_X8 hown hK hG (ga_0 g _) rfl 9 (by decide) hw0 rfl rfl dX8_third_48 ?_
          refine gx_get (v := .ref (g.2.1 32)) (C := RX6) (T := TX6) (N := 13) hx hb hts mc_X6 hown hK hG (ga_28 g _) rfl 3 (by decide) hw1 rfl rfl dX8_third_51 ?_
          refine lv_iload_n hx hb dX8_third_54 rfl (lv_at hl 1 rfl) ?_
          refine lv_iload_n hx hb dX8_third_55 rfl (lv_at hl 2 rfl) ?_
          refine lv_iload_n hx hb dX8_third_56 rfl (lv_at hl 3 rfl) ?_
          obtain ⟨z13, hc14, h⟩ := bnd_some h
          refine gx_cS (σ' := (mkS σ [(1802, z10.2.1), (1804, z10.2.2.1), (1801, z10.2.2.2.1)] [(1803, z10.2.2.2.2.1)] [(35, z10.2.2.2.2.2.1), (36, z10.2.2.2.2.2.2.1)] [(31, z10.2.2.2.2.2.2.2.1), (33, z10.2.2.2.2.2.2.2.2.1), (32, z10.2.2.2.2.2.2.2.2.2)])) (r := (some (.int z13))) (rest := [.ref (g.2.1 32)]) (As := [.int x1, .int x2, .int x3]) hS9 (c_Td_place l g (mkS σ [(1802, z10.2.1), (1804, z10.2.2.1), (1801, z10.2.2.2.1)] [(1803, z10.2.2.2.2.1)] [(35, z10.2.2.2.2.2.1), (36, z10.2.2.2.2.2.2.1)] [(31, z10.2.2.2.2.2.2.2.1), (33, z10.2.2.2.2.2.2.2.2.1), (32, z10.2.2.2.2.2.2.2.2.2)]) x1 x2 x3 z13 hc14) rfl (va_cwS 3 hts (gz_S mw_3_227 mw_3_179 mw_1_7 mw_3_180) rfl rfl rfl hdS_X6_place ⟨Nat.le_of_ble_eq_true rfl, Nat.le_of_ble_eq_true rfl⟩) hK hG rfl hl.1 rfl (Nat.le_of_ble_eq_true rfl) dX8_third_57 (fun H locs hG => ?_)
          refine W.eq (g2 := F0 m 60 ls [.int z13, .ref (g.2.1 32)]) rfl ?_
          obtain ⟨hg15, h⟩ := gd_some h
          refine gx_lald (f := z10.2.2.2.2.2.2.2.2.2) hx hb hK hG (ga_32 g _) hg15 dX8_third_60 ?_
          refine lv_l2i hx hb dX8_third_61 rfl ?_
          refine lv_goto (tgt := 67) hx hb dX8_third_62 (by decide) ?_
          exact n67 ((z10.2.2.2.2.2.2.2.2.2 (z13.toNatClampNeg)).toInt32) z10.2.1 z10.2.2.1 z10.2.2.2.1 z10.2.2.2.2.1 z10.2.2.2.2.2.1 z10.2.2.2.2.2.2.1 z10.2.2.2.2.2.2.2.1 z10.2.2.2.2.2.2.2.2.1 z10.2.2.2.2.2.2.2.2.2 _ _ _ (lv_sub hl [] rfl) hG h
      · have h := ite_t c9 h
        exact n33 (σ.1 1802) (σ.1 1804) (σ.1 1801) (σ.2.1 1803) (σ.2.2.1 35) (σ.2.2.1 36) (σ.2.2.2 31) (σ.2.2.2 33) (σ.2.2.2 32) _ _ _ (lv_sub hl [] rfl) hG h

set_option maxHeartbeats 4000000 in
set_option maxRecDepth 100000 in
theorem c_LN_thirds (l : Launch) (g : GC) (σ : St) (x1 : Int32) (x2 : Int32) (x3 : Int32) (x4 : Int32) (r : Int32) (w_ways_far : Int32) (w_ways_ready : Int32) (w_ways_size : Int32) (w_ways_whole : Int32) (w_ways_layers : Nat → Int32) (w_ways_reached : Nat → Int32) (w_ways_steps : Nat → Int32) (h : LN_thirds x1 x2 x3 x4 (σ.1 641) (σ.1 1286) (σ.1 1283) (σ.1 1285) (σ.1 1284) (σ.2.2.1 11) (σ.2.2.1 22) (σ.2.2.1 23) (σ.2.2.1 21) = some (r, w_ways_far, w_ways_ready, w_ways_size, w_ways_whole, w_ways_layers, w_ways_reached, w_ways_steps)) : Cn l g yX8_thirds (Cond.code yX8_thirds cX8_thirds 5 (some .int) :: wG) 5 114 [.ref (g.2.1 0), .int x1, .int x2, .int x3, .int x4] σ (some (.int r)) (mkS σ [(1286, w_ways_far), (1283, w_ways_ready), (1285, w_ways_size), (1284, w_ways_whole)] [] [(22, w_ways_layers), (23, w_ways_reached), (21, w_ways_steps)] []) := by
  unfold Cn
  refine Met.ofW (cc := cX8_thirds) (maxL := 5) (ret := (some .int)) (by decide) rfl ?_
  intro p e s m args below meth c s₁ B hml hv
  obtain ⟨hargs, hP0, hK⟩ := hv
  have hx := B.exec
  have hb := B.bytes
  have hr := B.returns
  have hts : ∀ w ∈ wG, w.before args s = true := fun w h => atoms_spec (ws := (Cond.code yX8_thirds cX8_thirds 5 (some .int) :: wG)) B.pre w (List.mem_cons_of_mem _ h)
  have hown : s.vm.findClass RX8 = some m.cls := findClass_of_methodNamed B.named
  have hlocks := B.notSynchronized
  have hS9 : CallFix p m c cX8_thirds 5 s args wG RX8 := ⟨hx, hb, hml, hown, hts⟩
  have hw0 := hts _ mw_2_38
  have hw1 := hts _ mw_2_44
  have hf9 : entryFrame m args 5 = _ := (congrArg (fun a => entryFrame m a 5) hargs).trans (lg_entry_eq m [.ref (g.2.1 0), .int x1, .int x2, .int x3, .int x4] 5)
  show Wg p l e 5 114 s m args below meth c g (some (.int r)) (mkS σ [(1286, w_ways_far), (1283, w_ways_ready), (1285, w_ways_size), (1284, w_ways_whole)] [] [(22, w_ways_layers), (23, w_ways_reached), (21, w_ways_steps)] []) s.heap [] (entryFrame m args 5)
  rw [hf9]
  have hl := lv_entry ([.ref (g.2.1 0), .int x1, .int x2, .int x3, .int x4]) (n := 5) (Nat.le_of_ble_eq_true rfl)
  generalize (lg_sl ([.ref (g.2.1 0), .int x1, .int x2, .int x3, .int x4]) ++ List.replicate (5 - (lg_sl ([.ref (g.2.1 0), .int x1, .int x2, .int x3, .int x4])).length) Slot.unset).toArray = ls at hl ⊢
  have hl : lv_has ls 5 [(0, .ref (g.2.1 0)), (1, .int x1), (2, .int x2), (3, .int x3), (4, .int x4)] := hl
  have hG : GW g s σ s.heap [] := ⟨hP0, va_S.rf⟩
  have hG : GW g s (mkS σ [(1286, (σ.1 1286)), (1283, (σ.1 1283)), (1285, (σ.1 1285)), (1284, (σ.1 1284))] [] [(22, (σ.2.2.1 22)), (23, (σ.2.2.1 23)), (21, (σ.2.2.1 21))] []) s.heap [] := GW_self [1286, 1283, 1285, 1284] [] [22, 23, 21] [] hG
  unfold LN_thirds at h
  have n31 : ∀ (v_ways_far : Int32) (v_ways_ready : Int32) (v_ways_size : Int32) (v_ways_whole : Int32) (v_ways_layers : Nat → Int32) (v_ways_reached : Nat → Int32) (v_ways_steps : Nat → Int32) (H : Heap) (locs : List Loc) (ls : Array Slot), lv_has ls 5 [] → GW g s (mkS σ [(1286, v_ways_far), (1283, v_ways_ready), (1285, v_ways_size), (1284, v_ways_whole)] [] [(22, v_ways_layers), (23, v_ways_reached), (21, v_ways_steps)] []) H locs → LN_thirds_n31 v_ways_far v_ways_ready v_ways_size v_ways_whole v_ways_layers v_ways_reached v_ways_steps = some (r, w_ways_far, w_ways_ready, w_ways_size, w_ways_whole, w_ways_layers, w_ways_reached, w_ways_steps) → Wg p l e 5 114 s m args below meth c g (some (.int r)) (mkS σ [(1286, w_ways_far), (1283, w_ways_ready), (1285, w_ways_size), (1284, w_ways_whole)] [] [(22, w_ways_layers), (23, w_ways_reached), (21, w_ways_steps)] []) H locs (F0 m 31 ls []) := by
    intro v_ways_far v_ways_ready v_ways_size v_ways_whole v_ways_layers v_ways_reached v_ways_steps H locs ls hl hG h
    unfold LN_thirds_n31 at h
    refine lv_iconst (v := (-1 : Int32)) hx hb dX8_thirds_31 (by decide) ?_
    cases h
    exact gx_iret hx hb hr hlocks hG dX8_thirds_32
  refine lv_aload_n hx hb dX8_thirds_0 rfl (lv_at hl 0 rfl) ?_
  refine gx_get (v := .ref (g.2.1 10)) (C := RX8) (T := TX8) (N := 13) hx hb hts mc_X8 hown hK hG (ga_0 g _) rfl 1 (by decide) hw0 rfl rfl dX8_thirds_1 ?_
  refine lv_iload_n hx hb dX8_thirds_4 rfl (lv_at hl 1 rfl) ?_
  obtain ⟨z1, hc2, h⟩ := bnd_some h
  refine gx_cV (σ' := (mkS σ [(1286, (σ.1 1286)), (1283, (σ.1 1283)), (1285, (σ.1 1285)), (1284, (σ.1 1284))] [] [(22, (σ.2.2.1 22)), (23, (σ.2.2.1 23)), (21, (σ.2.2.1 21))] [])) (r := (some (.int z1))) (rest := []) (As := [.int x1]) hS9 (c_Net_has_10 l g (mkS σ [(1286, (σ.1 1286)), (1283, (σ.1 1283)), (1285, (σ.1 1285)), (1284, (σ.1 1284))] [] [(22, (σ.2.2.1 22)), (23, (σ.2.2.1 23)), (21, (σ.2.2.1 21))] []) x1 z1 hc2) rfl (cwV 1 hts (gz_V mw_3_4 mw_2_127 mw_2_128 mw_1_3 mw_2_129) rfl rfl rfl hdV_X2_has ⟨Nat.le_of_ble_eq_true rfl, Nat.le_of_ble_eq_true rfl⟩) hK hG (ga_10 g _) rfl rfl rfl hl.1 rfl (Nat.le_of_ble_eq_true rfl) dX8_thirds_5 (fun H locs hG => ?_)
  refine W.eq (g2 := F0 m 8 ls [.int z1]) rfl ?_
  refine lv_if_eq (tgt := 31) hx hb dX8_thirds_8 (by decide) (fun c3 => ?_) (fun c3 => ?_)
  · have h := ite_t c3 h
    exact n31 (σ.1 1286) (σ.1 1283) (σ.1 1285) (σ.1 1284) (σ.2.2.1 22) (σ.2.2.1 23) (σ.2.2.1 21) _ _ _ (lv_sub hl [] rfl) hG h
  · have h := ite_f c3 h
    refine lv_aload_n hx hb dX8_thirds_11 rfl (lv_at hl 0 rfl) ?_
    refine gx_get (v := .ref (g.2.1 10)) (C := RX8) (T := TX8) (N := 13) hx hb hts mc_X8 hown hK hG (ga_0 g _) rfl 1 (by decide) hw0 rfl rfl dX8_thirds_12 ?_
    refine lv_iload_n hx hb dX8_thirds_15 rfl (lv_at hl 2 rfl) ?_
    obtain ⟨z4, hc5, h⟩ := bnd_some h
    refine gx_cV (σ' := (mkS σ [(1286, (σ.1 1286)), (1283, (σ.1 1283)), (1285, (σ.1 1285)), (1284, (σ.1 1284))] [] [(22, (σ.2.2.1 22)), (23, (σ.2.2.1 23)), (21, (σ.2.2.1 21))] [])) (r := (some (.int z4))) (rest := []) (As := [.int x2]) hS9 (c_Net_has_10 l g (mkS σ [(1286, (σ.1 1286)), (1283, (σ.1 1283)), (1285, (σ.1 1285)), (1284, (σ.1 1284))] [] [(22, (σ.2.2.1 22)), (23, (σ.2.2.1 23)), (21, (σ.2.2.1 21))] []) x2 z4 hc5) rfl (cwV 1 hts (gz_V mw_3_4 mw_2_127 mw_2_128 mw_1_3 mw_2_129) rfl rfl rfl hdV_X2_has ⟨Nat.le_of_ble_eq_true rfl, Nat.le_of_ble_eq_true rfl⟩) hK hG (ga_10 g _) rfl rfl rfl hl.1 rfl (Nat.le_of_ble_eq_true rfl) dX8_thirds_16 (fun H locs hG => ?_)
    refine W.eq (g2 := F0 m 19 ls [.int z4]) rfl ?_
    refine lv_if_eq (tgt := 31) hx hb dX8_thirds_19 (by decide) (fun c6 => ?_) (fun c6 => ?_)
    · have h := ite_t c6 h
      exact n31 (σ.1 1286) (σ.1 1283) (σ.1 1285) (σ.1 1284) (σ.2.2.1 22) (σ.2.2.1 23) (σ.2.2.1 21) _ _ _ (lv_sub hl [] rfl) hG h
    · have h := ite_f c6 h
      refine lv_iload_n hx hb dX8_thirds_22 rfl (lv_at hl 3 rfl) ?_
      refine lv_if_lt (tgt := 31) hx hb dX8_thirds_23 (by decide) (fun c7 => ?_) (fun c7 => ?_)
      · have h := ite_t c7 h
        exact n31 (σ.1 1286) (σ.1 1283) (σ.1 1285) (σ.1 1284) (σ.2.2.1 22) (σ.2.2.1 23) (σ.2.2.1 21) _ _ _ (lv_sub hl [] rfl) hG h
      · have h := ite_f c7 h
        refine lv_iload hx hb dX8_thirds_26 (lv_at hl 4 rfl) ?_
        refine lv_if_ge (tgt := 33) hx hb dX8_thirds_28 (by decide) (fun c8 => ?_) (fun c8 => ?_)
        · have h := ite_t c8 h
          refine lv_aload_n hx hb dX8_thirds_33 rfl (lv_at hl 0 rfl) ?_
          obtain ⟨z9, hc10, h⟩ := bnd_some h
          refine gx_cV (σ' := (mkS σ [(1286, z9.1), (1283, z9.2.1), (1285, z9.2.2.1), (1284, z9.2.2.2.1)] [] [(22, z9.2.2.2.2.1), (23, z9.2.2.2.2.2.1), (21, z9.2.2.2.2.2.2)] [])) (r := none) (rest := []) (As := []) hS9 (c_LN_measure l g (mkS σ [(1286, (σ.1 1286)), (1283, (σ.1 1283)), (1285, (σ.1 1285)), (1284, (σ.1 1284))] [] [(22, (σ.2.2.1 22)), (23, (σ.2.2.1 23)), (21, (σ.2.2.1 21))] []) z9.1 z9.2.1 z9.2.2.1 z9.2.2.2.1 z9.2.2.2.2.1 z9.2.2.2.2.2.1 z9.2.2.2.2.2.2 hc10) (mk_mk rfl rfl rfl rfl) (cwV 0 hts (gz_V mw_3_5 mw_3_7 ms_1_6 mw_1_1 mw_3_8) rfl rfl rfl hdV_X8_measure ⟨Nat.le_of_ble_eq_true rfl, Nat.le_of_ble_eq_true rfl⟩) hK hG (ga_0 g _) rfl rfl rfl hl.1 rfl (Nat.le_of_ble_eq_true rfl) dX8_thirds_34 (fun H locs hG => ?_)
          refine W.eq (g2 := F0 m 37 ls []) rfl ?_
          refine lv_aload_n hx hb dX8_thirds_37 rfl (lv_at hl 0 rfl) ?_
          refine gx_get (v := .ref (g.2.1 20)) (C := RX8) (T := TX8) (N := 13) hx hb hts mc_X8 hown hK hG (ga_0 g _) rfl 7 (by decide) hw1 rfl rfl dX8_thirds_38 ?_
          refine lv_iload_n hx hb dX8_thirds_41 rfl (lv_at hl 1 rfl) ?_
          refine lv_iload_n hx hb dX8_thirds_42 rfl (lv_at hl 3 rfl) ?_
          obtain ⟨z11, hc12, h⟩ := bnd_some h
          refine gx_cV (σ' := (mkS σ [(1286, z9.1), (1283, z9.2.1), (1285, z9.2.2.1), (1284, z9.2.2.2.1)] [] [(22, z9.2.2.2.2.1), (23, z9.2.2.2.2.2.1), (21, z9.2.2.2.2.2.2)] [])) (r := (some (.int z11))) (rest := []) (As := [.int x1, .int x3]) hS9 (c_Wy_postsAt l g (mkS σ [(1286, z9.1), (1283, z9.2.1), (1285, z9.2.2.1), (1284, z9.2.2.2.1)] [] [(22, z9.2.2.2.2.1), (23, z9.2.2.2.2.2.1), (21, z9.2.2.2.2.2.2)] []) x1 x3 z11 hc12) rfl (cwV 2 hts (gz_V mw_3_106 mw_3_62 mw_3_63 mw_1_5 mw_3_64) rfl rfl rfl hdV_X7_postsAt ⟨Nat.le_of_ble_eq_true rfl, Nat.le_of_ble_eq_true rfl⟩) hK hG (ga_20 g _) rfl rfl rfl hl.1 rfl (Nat.le_of_ble_eq_true rfl) dX8_thirds_43 (fun H locs hG => ?_)
          refine W.eq (g2 := F0 m 46 ls [.int z11]) rfl ?_
          refine lv_aload_n hx hb dX8_thirds_46 rfl (lv_at hl 0 rfl) ?_
          refine gx_get (v := .ref (g.2.1 20)) (C := RX8) (T := TX8) (N := 13) hx hb hts mc_X8 hown hK hG (ga_0 g _) rfl 7 (by decide) hw1 rfl rfl dX8_thirds_47 ?_
          refine lv_iload_n hx hb dX8_thirds_50 rfl (lv_at hl 2 rfl) ?_
          refine lv_iload hx hb dX8_thirds_51 (lv_at hl 4 rfl) ?_
          obtain ⟨z13, hc14, h⟩ := bnd_some h
          refine gx_cV (σ' := (mkS σ [(1286, z9.1), (1283, z9.2.1), (1285, z9.2.2.1), (1284, z9.2.2.2.1)] [] [(22, z9.2.2.2.2.1), (23, z9.2.2.2.2.2.1), (21, z9.2.2.2.2.2.2)] [])) (r := (some (.int z13))) (rest := [.int z11]) (As := [.int x2, .int x4]) hS9 (c_Wy_postsAt l g (mkS σ [(1286, z9.1), (1283, z9.2.1), (1285, z9.2.2.1), (1284, z9.2.2.2.1)] [] [(22, z9.2.2.2.2.1), (23, z9.2.2.2.2.2.1), (21, z9.2.2.2.2.2.2)] []) x2 x4 z13 hc14) rfl (cwV 2 hts (gz_V mw_3_106 mw_3_62 mw_3_63 mw_1_5 mw_3_64) rfl rfl rfl hdV_X7_postsAt ⟨Nat.le_of_ble_eq_true rfl, Nat.le_of_ble_eq_true rfl⟩) hK hG (ga_20 g _) rfl rfl rfl hl.1 rfl (Nat.le_of_ble_eq_true rfl) dX8_thirds_53 (fun H locs hG => ?_)
          refine W.eq (g2 := F0 m 56 ls [.int z13, .int z11]) rfl ?_
          refine lv_iand hx hb dX8_thirds_56 ?_
          obtain ⟨z15, hc16, h⟩ := bnd_some h
          refine gx_cS (σ' := (mkS σ [(1286, z9.1), (1283, z9.2.1), (1285, z9.2.2.1), (1284, z9.2.2.2.1)] [] [(22, z9.2.2.2.2.1), (23, z9.2.2.2.2.2.1), (21, z9.2.2.2.2.2.2)] [])) (r := (some (.int z15))) (rest := []) (As := [.int (z11 &&& z13)]) hS9 (c_JI_bitCount l g (mkS σ [(1286, z9.1), (1283, z9.2.1), (1285, z9.2.2.1), (1284, z9.2.2.2.1)] [] [(22, z9.2.2.2.2.1), (23, z9.2.2.2.2.2.1), (21, z9.2.2.2.2.2.2)] []) (z11 &&& z13) z15 hc16) rfl (va_cwS 1 hts (gz_S mw_3_48 mw_2_169 mw_1_12 mw_2_170) rfl rfl rfl hdS_J6_bitCount_0f7a4 ⟨Nat.le_of_ble_eq_true rfl, Nat.le_of_ble_eq_true rfl⟩) hK hG rfl hl.1 rfl (Nat.le_of_ble_eq_true rfl) dX8_thirds_57 (fun H locs hG => ?_)
          refine W.eq (g2 := F0 m 60 ls [.int z15]) rfl ?_
          cases h
          exact gx_iret hx hb hr hlocks hG dX8_thirds_60
        · have h := ite_f c8 h
          exact n31 (σ.1 1286) (σ.1 1283) (σ.1 1285) (σ.1 1284) (σ.2.2.1 22) (σ.2.2.1 23) (σ.2.2.1 21) _ _ _ (lv_sub hl [] rfl) hG h

set_option maxHeartbeats 4000000 in
set_option maxRecDepth 100000 in
theorem c_LN_twice (l : Launch) (g : GC) (σ : St) (r : Int32) (w_likeness_ready : Int32) (w_made_size : Int32) (w_now_size : Int32) (w_pairs_ready : Int32) (w_search_reach : Int32) (w_ways_ready : Int32) (w_made_near : Nat → Int32) (w_now_near : Nat → Int32) (h : LN_twice (σ.1 1539) (σ.1 769) (σ.1 641) (σ.1 2632) (σ.1 2372) (σ.1 1283) (σ.2.2.1 13) (σ.2.2.1 11) = some (r, w_likeness_ready, w_made_size, w_now_size, w_pairs_ready, w_search_reach, w_ways_ready, w_made_near, w_now_near)) : Cn l g yX8_twice (Cond.code yX8_twice cX8_twice 4 (some .int) :: wG) 3 101 [.ref (g.2.1 0)] σ (some (.int r)) (mkS σ [(1539, w_likeness_ready), (769, w_made_size), (641, w_now_size), (2632, w_pairs_ready), (2372, w_search_reach), (1283, w_ways_ready)] [] [(13, w_made_near), (11, w_now_near)] []) := by
  unfold Cn
  refine Met.ofW (cc := cX8_twice) (maxL := 4) (ret := (some .int)) (by decide) rfl ?_
  intro p e s m args below meth c s₁ B hml hv
  obtain ⟨hargs, hP0, hK⟩ := hv
  have hx := B.exec
  have hb := B.bytes
  have hr := B.returns
  have hts : ∀ w ∈ wG, w.before args s = true := fun w h => atoms_spec (ws := (Cond.code yX8_twice cX8_twice 4 (some .int) :: wG)) B.pre w (List.mem_cons_of_mem _ h)
  have hown : s.vm.findClass RX8 = some m.cls := findClass_of_methodNamed B.named
  have hlocks := B.notSynchronized
  have hS9 : CallFix p m c cX8_twice 4 s args wG RX8 := ⟨hx, hb, hml, hown, hts⟩
  have hw0 := hts _ mw_2_38
  have hw1 := hts _ mw_2_39
  have hw2 := hts _ mw_1_61
  have hf9 : entryFrame m args 4 = _ := (congrArg (fun a => entryFrame m a 4) hargs).trans (lg_entry_eq m [.ref (g.2.1 0)] 4)
  show Wg p l e 3 101 s m args below meth c g (some (.int r)) (mkS σ [(1539, w_likeness_ready), (769, w_made_size), (641, w_now_size), (2632, w_pairs_ready), (2372, w_search_reach), (1283, w_ways_ready)] [] [(13, w_made_near), (11, w_now_near)] []) s.heap [] (entryFrame m args 4)
  rw [hf9]
  have hl := lv_entry ([.ref (g.2.1 0)]) (n := 4) (Nat.le_of_ble_eq_true rfl)
  generalize (lg_sl ([.ref (g.2.1 0)]) ++ List.replicate (4 - (lg_sl ([.ref (g.2.1 0)])).length) Slot.unset).toArray = ls at hl ⊢
  have hl : lv_has ls 4 [(0, .ref (g.2.1 0))] := hl
  have hG : GW g s σ s.heap [] := ⟨hP0, va_S.rf⟩
  have hG : GW g s (mkS σ [(1539, (σ.1 1539)), (769, (σ.1 769)), (641, (σ.1 641)), (2632, (σ.1 2632)), (2372, (σ.1 2372)), (1283, (σ.1 1283))] [] [(13, (σ.2.2.1 13)), (11, (σ.2.2.1 11))] []) s.heap [] := GW_self [1539, 769, 641, 2632, 2372, 1283] [] [13, 11] [] hG
  unfold LN_twice at h
  have n66 : ∀ (k38 : Int32 → Int32 → Int32 → Int32 → Int32 → Int32 → Int32 → Int32 → Int32 → (Nat → Int32) → (Nat → Int32) → Option (Int32 × Int32 × Int32 × Int32 × Int32 × Int32 × Int32 × (Nat → Int32) × (Nat → Int32))) (hk38 : ∀ (x1 : Int32) (x2 : Int32) (x3 : Int32) (v_likeness_ready : Int32) (v_made_size : Int32) (v_now_size : Int32) (v_pairs_ready : Int32) (v_search_reach : Int32) (v_ways_ready : Int32) (v_made_near : Nat → Int32) (v_now_near : Nat → Int32) (H : Heap) (locs : List Loc) (ls : Array Slot), lv_has ls 4 [(0, .ref (g.2.1 0)), (1, .int x1), (2, .int x2), (3, .int x3)] → GW g s (mkS σ [(1539, v_likeness_ready), (769, v_made_size), (641, v_now_size), (2632, v_pairs_ready), (2372, v_search_reach), (1283, v_ways_ready)] [] [(13, v_made_near), (11, v_now_near)] []) H locs → k38 x1 x2 x3 v_likeness_ready v_made_size v_now_size v_pairs_ready v_search_reach v_ways_ready v_made_near v_now_near = some (r, w_likeness_ready, w_made_size, w_now_size, w_pairs_ready, w_search_reach, w_ways_ready, w_made_near, w_now_near) → Wg p l e 3 101 s m args below meth c g (some (.int r)) (mkS σ [(1539, w_likeness_ready), (769, w_made_size), (641, w_now_size), (2632, w_pairs_ready), (2372, w_search_reach), (1283, w_ways_ready)] [] [(13, w_made_near), (11, w_now_near)] []) H locs (F0 m 38 ls [])) (x1 : Int32) (x2 : Int32) (x3 : Int32) (v_likeness_ready : Int32) (v_made_size : Int32) (v_now_size : Int32) (v_pairs_ready : Int32) (v_search_reach : Int32) (v_ways_ready : Int32) (v_made_near : Nat → Int32) (v_now_near : Nat → Int32) (H : Heap) (locs : List Loc) (ls : Array Slot), lv_has ls 4 [(0, .ref (g.2.1 0)), (1, .int x1), (2, .int x2), (3, .int x3)] → GW g s (mkS σ [(1539, v_likeness_ready), (769, v_made_size), (641, v_now_size), (2632, v_pairs_ready), (2372, v_search_reach), (1283, v_ways_ready)] [] [(13, v_made_near), (11, v_now_near)] []) H locs → LN_twice_n66 k38 x1 x2 x3 v_likeness_ready v_made_size v_now_size v_pairs_ready v_search_reach v_ways_ready v_made_near v_now_near = some (r, w_likeness_ready, w_made_size, w_now_size, w_pairs_ready, w_search_reach, w_ways_ready, w_made_near, w_now_near) → Wg p l e 3 101 s m args below meth c g (some (.int r)) (mkS σ [(1539, w_likeness_ready), (769, w_made_size), (641, w_now_size), (2632, w_pairs_ready), (2372, w_search_reach), (1283, w_ways_ready)] [] [(13, w_made_near), (11, w_now_near)] []) H locs (F0 m 66 ls []) := by
    intro k38 hk38 x1 x2 x3 v_likeness_ready v_made_size v_now_size v_pairs_ready v_search_reach v_ways_ready v_made_near v_now_near H locs ls hl hG h
    unfold LN_twice_n66 at h
    refine lv_iinc (v := (x3 + (1 : Int32))) (lv' := [(3, .int (x3 + (1 : Int32))), (0, .ref (g.2.1 0)), (1, .int x1), (2, .int x2)]) hx hb dX8_twice_66 hl (k := 3) rfl (congrArg (fun z => x3 + z) (by decide)) (Nat.le_of_ble_eq_true rfl) rfl (fun ls hl => ?_)
    refine lv_goto (tgt := 38) hx hb dX8_twice_69 (by decide) ?_
    exact hk38 x1 x2 (x3 + (1 : Int32)) v_likeness_ready v_made_size v_now_size v_pairs_ready v_search_reach v_ways_ready v_made_near v_now_near _ _ _ (lv_sub hl [1, 2, 3, 0] rfl) hG h
  have n72 : ∀ (k31 : Int32 → Int32 → Int32 → Int32 → Int32 → Int32 → Int32 → Int32 → (Nat → Int32) → (Nat → Int32) → Option (Int32 × Int32 × Int32 × Int32 × Int32 × Int32 × Int32 × (Nat → Int32) × (Nat → Int32))) (hk31 : ∀ (x1 : Int32) (x2 : Int32) (v_likeness_ready : Int32) (v_made_size : Int32) (v_now_size : Int32) (v_pairs_ready : Int32) (v_search_reach : Int32) (v_ways_ready : Int32) (v_made_near : Nat → Int32) (v_now_near : Nat → Int32) (H : Heap) (locs : List Loc) (ls : Array Slot), lv_has ls 4 [(0, .ref (g.2.1 0)), (1, .int x1), (2, .int x2)] → GW g s (mkS σ [(1539, v_likeness_ready), (769, v_made_size), (641, v_now_size), (2632, v_pairs_ready), (2372, v_search_reach), (1283, v_ways_ready)] [] [(13, v_made_near), (11, v_now_near)] []) H locs → k31 x1 x2 v_likeness_ready v_made_size v_now_size v_pairs_ready v_search_reach v_ways_ready v_made_near v_now_near = some (r, w_likeness_ready, w_made_size, w_now_size, w_pairs_ready, w_search_reach, w_ways_ready, w_made_near, w_now_near) → Wg p l e 3 101 s m args below meth c g (some (.int r)) (mkS σ [(1539, w_likeness_ready), (769, w_made_size), (641, w_now_size), (2632, w_pairs_ready), (2372, w_search_reach), (1283, w_ways_ready)] [] [(13, w_made_near), (11, w_now_near)] []) H locs (F0 m 31 ls [])) (x1 : Int32) (x2 : Int32) (v_likeness_ready : Int32) (v_made_size : Int32) (v_now_size : Int32) (v_pairs_ready : Int32) (v_search_reach : Int32) (v_ways_ready : Int32) (v_made_near : Nat → Int32) (v_now_near : Nat → Int32) (H : Heap) (locs : List Loc) (ls : Array Slot), lv_has ls 4 [(0, .ref (g.2.1 0)), (1, .int x1), (2, .int x2)] → GW g s (mkS σ [(1539, v_likeness_ready), (769, v_made_size), (641, v_now_size), (2632, v_pairs_ready), (2372, v_search_reach), (1283, v_ways_ready)] [] [(13, v_made_near), (11, v_now_near)] []) H locs → LN_twice_n72 k31 x1 x2 v_likeness_ready v_made_size v_now_size v_pairs_ready v_search_reach v_ways_ready v_made_near v_now_near = some (r, w_likeness_ready, w_made_size, w_now_size, w_pairs_ready, w_search_reach, w_ways_ready, w_made_near, w_now_near) → Wg p l e 3 101 s m args below meth c g (some (.int r)) (mkS σ [(1539, w_likeness_ready), (769, w_made_size), (641, w_now_size), (2632, w_pairs_ready), (2372, w_search_reach), (1283, w_ways_ready)] [] [(13, w_made_near), (11, w_now_near)] []) H locs (F0 m 72 ls []) := by
    intro k31 hk31 x1 x2 v_likeness_ready v_made_size v_now_size v_pairs_ready v_search_reach v_ways_ready v_made_near v_now_near H locs ls hl hG h
    unfold LN_twice_n72 at h
    refine lv_iinc (v := (x2 + (1 : Int32))) (lv' := [(2, .int (x2 + (1 : Int32))), (0, .ref (g.2.1 0)), (1, .int x1)]) hx hb dX8_twice_72 hl (k := 2) rfl (congrArg (fun z => x2 + z) (by decide)) (Nat.le_of_ble_eq_true rfl) rfl (fun ls hl => ?_)
    refine lv_goto (tgt := 31) hx hb dX8_twice_75 (by decide) ?_
    exact hk31 x1 (x2 + (1 : Int32)) v_likeness_ready v_made_size v_now_size v_pairs_ready v_search_reach v_ways_ready v_made_near v_now_near _ _ _ (lv_sub hl [1, 2, 0] rfl) hG h
  have n38 : ∀ (k31 : Int32 → Int32 → Int32 → Int32 → Int32 → Int32 → Int32 → Int32 → (Nat → Int32) → (Nat → Int32) → Option (Int32 × Int32 × Int32 × Int32 × Int32 × Int32 × Int32 × (Nat → Int32) × (Nat → Int32))) (hk31 : ∀ (x1 : Int32) (x2 : Int32) (v_likeness_ready : Int32) (v_made_size : Int32) (v_now_size : Int32) (v_pairs_ready : Int32) (v_search_reach : Int32) (v_ways_ready : Int32) (v_made_near : Nat → Int32) (v_now_near : Nat → Int32) (H : Heap) (locs : List Loc) (ls : Array Slot), lv_has ls 4 [(0, .ref (g.2.1 0)), (1, .int x1), (2, .int x2)] → GW g s (mkS σ [(1539, v_likeness_ready), (769, v_made_size), (641, v_now_size), (2632, v_pairs_ready), (2372, v_search_reach), (1283, v_ways_ready)] [] [(13, v_made_near), (11, v_now_near)] []) H locs → k31 x1 x2 v_likeness_ready v_made_size v_now_size v_pairs_ready v_search_reach v_ways_ready v_made_near v_now_near = some (r, w_likeness_ready, w_made_size, w_now_size, w_pairs_ready, w_search_reach, w_ways_ready, w_made_near, w_now_near) → Wg p l e 3 101 s m args below meth c g (some (.int r)) (mkS σ [(1539, w_likeness_ready), (769, w_made_size), (641, w_now_size), (2632, w_pairs_ready), (2372, w_search_reach), (1283, w_ways_ready)] [] [(13, w_made_near), (11, w_now_near)] []) H locs (F0 m 31 ls [])) (k38 : Int32 → Int32 → Int32 → Int32 → Int32 → Int32 → Int32 → Int32 → Int32 → (Nat → Int32) → (Nat → Int32) → Option (Int32 × Int32 × Int32 × Int32 × Int32 × Int32 × Int32 × (Nat → Int32) × (Nat → Int32))) (hk38 : ∀ (x1 : Int32) (x2 : Int32) (x3 : Int32) (v_likeness_ready : Int32) (v_made_size : Int32) (v_now_size : Int32) (v_pairs_ready : Int32) (v_search_reach : Int32) (v_ways_ready : Int32) (v_made_near : Nat → Int32) (v_now_near : Nat → Int32) (H : Heap) (locs : List Loc) (ls : Array Slot), lv_has ls 4 [(0, .ref (g.2.1 0)), (1, .int x1), (2, .int x2), (3, .int x3)] → GW g s (mkS σ [(1539, v_likeness_ready), (769, v_made_size), (641, v_now_size), (2632, v_pairs_ready), (2372, v_search_reach), (1283, v_ways_ready)] [] [(13, v_made_near), (11, v_now_near)] []) H locs → k38 x1 x2 x3 v_likeness_ready v_made_size v_now_size v_pairs_ready v_search_reach v_ways_ready v_made_near v_now_near = some (r, w_likeness_ready, w_made_size, w_now_size, w_pairs_ready, w_search_reach, w_ways_ready, w_made_near, w_now_near) → Wg p l e 3 101 s m args below meth c g (some (.int r)) (mkS σ [(1539, w_likeness_ready), (769, w_made_size), (641, w_now_size), (2632, w_pairs_ready), (2372, w_search_reach), (1283, w_ways_ready)] [] [(13, w_made_near), (11, w_now_near)] []) H locs (F0 m 38 ls [])) (x1 : Int32) (x2 : Int32) (x3 : Int32) (v_likeness_ready : Int32) (v_made_size : Int32) (v_now_size : Int32) (v_pairs_ready : Int32) (v_search_reach : Int32) (v_ways_ready : Int32) (v_made_near : Nat → Int32) (v_now_near : Nat → Int32) (H : Heap) (locs : List Loc) (ls : Array Slot), lv_has ls 4 [(0, .ref (g.2.1 0)), (1, .int x1), (2, .int x2), (3, .int x3)] → GW g s (mkS σ [(1539, v_likeness_ready), (769, v_made_size), (641, v_now_size), (2632, v_pairs_ready), (2372, v_search_reach), (1283, v_ways_ready)] [] [(13, v_made_near), (11, v_now_near)] []) H locs → LN_twice_n38 k31 k38 x1 x2 x3 v_likeness_ready v_made_size v_now_size v_pairs_ready v_search_reach v_ways_ready v_made_near v_now_near = some (r, w_likeness_ready, w_made_size, w_now_size, w_pairs_ready, w_search_reach, w_ways_ready, w_made_near, w_now_near) → Wg p l e 3 101 s m args below meth c g (some (.int r)) (mkS σ [(1539, w_likeness_ready), (769, w_made_size), (641, w_now_size), (2632, w_pairs_ready), (2372, w_search_reach), (1283, w_ways_ready)] [] [(13, w_made_near), (11, w_now_near)] []) H locs (F0 m 38 ls []) := by
    intro k31 hk31 k38 hk38 x1 x2 x3 v_likeness_ready v_made_size v_now_size v_pairs_ready v_search_reach v_ways_ready v_made_near v_now_near H locs ls hl hG h
    unfold LN_twice_n38 at h
    refine lv_iload_n hx hb dX8_twice_38 rfl (lv_at hl 3 rfl) ?_
    refine lv_iload_n hx hb dX8_twice_39 rfl (lv_at hl 1 rfl) ?_
    refine lv_icmp_ge (tgt := 72) hx hb dX8_twice_40 (by decide) (fun c1 => ?_) (fun c1 => ?_)
    · have h := ite_t c1 h
      exact n72 k31 hk31 x1 x2 v_likeness_ready v_made_size v_now_size v_pairs_ready v_search_reach v_ways_ready v_made_near v_now_near _ _ _ (lv_sub hl [0, 1, 2] rfl) hG h
    · have h := ite_f c1 h
      refine lv_aload_n hx hb dX8_twice_43 rfl (lv_at hl 0 rfl) ?_
      refine gx_get (v := .ref (g.2.1 10)) (C := RX8) (T := TX8) (N := 13) hx hb hts mc_X8 hown hK hG (ga_0 g _) rfl 1 (by decide) hw0 rfl rfl dX8_twice_44 ?_
      refine lv_iload_n hx hb dX8_twice_47 rfl (lv_at hl 2 rfl) ?_
      refine lv_iload_n hx hb dX8_twice_48 rfl (lv_at hl 3 rfl) ?_
      obtain ⟨z2, hc3, h⟩ := bnd_some h
      refine gx_cV (σ' := (mkS σ [(1539, v_likeness_ready), (769, v_made_size), (641, v_now_size), (2632, v_pairs_ready), (2372, v_search_reach), (1283, v_ways_ready)] [] [(13, v_made_near), (11, v_now_near)] [])) (r := (some (.int z2))) (rest := []) (As := [.int x2, .int x3]) hS9 (c_Net_areJoined_10 l g (mkS σ [(1539, v_likeness_ready), (769, v_made_size), (641, v_now_size), (2632, v_pairs_ready), (2372, v_search_reach), (1283, v_ways_ready)] [] [(13, v_made_near), (11, v_now_near)] []) x2 x3 z2 hc3) rfl (cwV 2 hts (gz_V mw_2_130 mw_2_131 mw_2_132 mw_1_3 mw_2_133) rfl rfl rfl hdV_X2_areJoined ⟨Nat.le_of_ble_eq_true rfl, Nat.le_of_ble_eq_true rfl⟩) hK hG (ga_10 g _) rfl rfl rfl hl.1 rfl (Nat.le_of_ble_eq_true rfl) dX8_twice_49 (fun H locs hG => ?_)
      refine W.eq (g2 := F0 m 52 ls [.int z2]) rfl ?_
      refine lv_if_eq (tgt := 66) hx hb dX8_twice_52 (by decide) (fun c4 => ?_) (fun c4 => ?_)
      · have h := ite_t c4 h
        exact n66 k38 hk38 x1 x2 x3 v_likeness_ready v_made_size v_now_size v_pairs_ready v_search_reach v_ways_ready v_made_near v_now_near _ _ _ (lv_sub hl [0, 1, 2, 3] rfl) hG h
      · have h := ite_f c4 h
        refine lv_aload_n hx hb dX8_twice_55 rfl (lv_at hl 0 rfl) ?_
        refine gx_get (v := .ref (g.2.1 12)) (C := RX8) (T := TX8) (N := 13) hx hb hts mc_X8 hown hK hG (ga_0 g _) rfl 2 (by decide) hw1 rfl rfl dX8_twice_56 ?_
        refine lv_iload_n hx hb dX8_twice_59 rfl (lv_at hl 2 rfl) ?_
        refine lv_iload_n hx hb dX8_twice_60 rfl (lv_at hl 1 rfl) ?_
        refine lv_iload_n hx hb dX8_twice_61 rfl (lv_at hl 3 rfl) ?_
        refine lv_iadd hx hb dX8_twice_62 ?_
        obtain ⟨z5, hc6, h⟩ := bnd_some h
        refine gx_cV (σ' := (mkS σ [(1539, v_likeness_ready), (769, v_made_size), (641, v_now_size), (2632, v_pairs_ready), (2372, v_search_reach), (1283, v_ways_ready)] [] [(13, z5), (11, v_now_near)] [])) (r := none) (rest := []) (As := [.int x2, .int (x1 + x3)]) hS9 (c_Net_join_12 l g (mkS σ [(1539, v_likeness_ready), (769, v_made_size), (641, v_now_size), (2632, v_pairs_ready), (2372, v_search_reach), (1283, v_ways_ready)] [] [(13, v_made_near), (11, v_now_near)] []) x2 (x1 + x3) z5 hc6) (mk_mk rfl rfl rfl rfl) (cwV 2 hts (gz_V mw_2_137 mw_2_138 mw_2_139 mw_1_3 mw_2_140) rfl rfl rfl hdV_X2_join ⟨Nat.le_of_ble_eq_true rfl, Nat.le_of_ble_eq_true rfl⟩) hK hG (ga_12 g _) rfl rfl rfl hl.1 rfl (Nat.le_of_ble_eq_true rfl) dX8_twice_63 (fun H locs hG => ?_)
        refine W.eq (g2 := F0 m 66 ls []) rfl ?_
        exact n66 k38 hk38 x1 x2 x3 v_likeness_ready v_made_size v_now_size v_pairs_ready v_search_reach v_ways_ready z5 v_now_near _ _ _ (lv_sub hl [0, 1, 2, 3] rfl) hG h
  have l38 : ∀ (k31 : Int32 → Int32 → Int32 → Int32 → Int32 → Int32 → Int32 → Int32 → (Nat → Int32) → (Nat → Int32) → Option (Int32 × Int32 × Int32 × Int32 × Int32 × Int32 × Int32 × (Nat → Int32) × (Nat → Int32))) (hk31 : ∀ (x1 : Int32) (x2 : Int32) (v_likeness_ready : Int32) (v_made_size : Int32) (v_now_size : Int32) (v_pairs_ready : Int32) (v_search_reach : Int32) (v_ways_ready : Int32) (v_made_near : Nat → Int32) (v_now_near : Nat → Int32) (H : Heap) (locs : List Loc) (ls : Array Slot), lv_has ls 4 [(0, .ref (g.2.1 0)), (1, .int x1), (2, .int x2)] → GW g s (mkS σ [(1539, v_likeness_ready), (769, v_made_size), (641, v_now_size), (2632, v_pairs_ready), (2372, v_search_reach), (1283, v_ways_ready)] [] [(13, v_made_near), (11, v_now_near)] []) H locs → k31 x1 x2 v_likeness_ready v_made_size v_now_size v_pairs_ready v_search_reach v_ways_ready v_made_near v_now_near = some (r, w_likeness_ready, w_made_size, w_now_size, w_pairs_ready, w_search_reach, w_ways_ready, w_made_near, w_now_near) → Wg p l e 3 101 s m args below meth c g (some (.int r)) (mkS σ [(1539, w_likeness_ready), (769, w_made_size), (641, w_now_size), (2632, w_pairs_ready), (2372, w_search_reach), (1283, w_ways_ready)] [] [(13, w_made_near), (11, w_now_near)] []) H locs (F0 m 31 ls [])) (F : Nat) (x1 : Int32) (x2 : Int32) (x3 : Int32) (v_likeness_ready : Int32) (v_made_size : Int32) (v_now_size : Int32) (v_pairs_ready : Int32) (v_search_reach : Int32) (v_ways_ready : Int32) (v_made_near : Nat → Int32) (v_now_near : Nat → Int32) (H : Heap) (locs : List Loc) (ls : Array Slot), lv_has ls 4 [(0, .ref (g.2.1 0)), (1, .int x1), (2, .int x2), (3, .int x3)] → GW g s (mkS σ [(1539, v_likeness_ready), (769, v_made_size), (641, v_now_size), (2632, v_pairs_ready), (2372, v_search_reach), (1283, v_ways_ready)] [] [(13, v_made_near), (11, v_now_near)] []) H locs → LN_twice_l38 k31 F x1 x2 x3 v_likeness_ready v_made_size v_now_size v_pairs_ready v_search_reach v_ways_ready v_made_near v_now_near = some (r, w_likeness_ready, w_made_size, w_now_size, w_pairs_ready, w_search_reach, w_ways_ready, w_made_near, w_now_near) → Wg p l e 3 101 s m args below meth c g (some (.int r)) (mkS σ [(1539, w_likeness_ready), (769, w_made_size), (641, w_now_size), (2632, w_pairs_ready), (2372, w_search_reach), (1283, w_ways_ready)] [] [(13, w_made_near), (11, w_now_near)] []) H locs (F0 m 38 ls []) := by
    intro k31 hk31 F
    induction F with
    | zero => intro x1 x2 x3 v_likeness_ready v_made_size v_now_size v_pairs_ready v_search_reach v_ways_ready v_made_near v_now_near H locs ls hl hG h; exact no_some h
    | succ F ih => intro x1 x2 x3 v_likeness_ready v_made_size v_now_size v_pairs_ready v_search_reach v_ways_ready v_made_near v_now_near H locs ls hl hG h; exact n38 k31 hk31 (fun x1 x2 x3 v_likeness_ready v_made_size v_now_size v_pairs_ready v_search_reach v_ways_ready v_made_near v_now_near => LN_twice_l38 k31 F x1 x2 x3 v_likeness_ready v_made_size v_now_size v_pairs_ready v_search_reach v_ways_ready v_made_near v_now_near) ih x1 x2 x3 v_likeness_ready v_made_size v_now_size v_pairs_ready v_search_reach v_ways_ready v_made_near v_now_near H locs ls hl hG h
  have n78 : ∀ (v_likeness_ready : Int32) (v_made_size : Int32) (v_now_size : Int32) (v_pairs_ready : Int32) (v_search_reach : Int32) (v_ways_ready : Int32) (v_made_near : Nat → Int32) (v_now_near : Nat → Int32) (H : Heap) (locs : List Loc) (ls : Array Slot), lv_has ls 4 [(0, .ref (g.2.1 0))] → GW g s (mkS σ [(1539, v_likeness_ready), (769, v_made_size), (641, v_now_size), (2632, v_pairs_ready), (2372, v_search_reach), (1283, v_ways_ready)] [] [(13, v_made_near), (11, v_now_near)] []) H locs → LN_twice_n78 v_likeness_ready v_made_size v_now_size v_pairs_ready v_search_reach v_ways_ready v_made_near v_now_near = some (r, w_likeness_ready, w_made_size, w_now_size, w_pairs_ready, w_search_reach, w_ways_ready, w_made_near, w_now_near) → Wg p l e 3 101 s m args below meth c g (some (.int r)) (mkS σ [(1539, w_likeness_ready), (769, w_made_size), (641, w_now_size), (2632, w_pairs_ready), (2372, w_search_reach), (1283, w_ways_ready)] [] [(13, w_made_near), (11, w_now_near)] []) H locs (F0 m 78 ls []) := by
    intro v_likeness_ready v_made_size v_now_size v_pairs_ready v_search_reach v_ways_ready v_made_near v_now_near H locs ls hl hG h
    unfold LN_twice_n78 at h
    refine lv_aload_n hx hb dX8_twice_78 rfl (lv_at hl 0 rfl) ?_
    obtain ⟨z7, hc8, h⟩ := bnd_some h
    refine gx_cV (σ' := (mkS σ [(1539, z7.2.1), (769, v_made_size), (641, z7.2.2.1), (2632, z7.2.2.2.1), (2372, z7.2.2.2.2.1), (1283, z7.2.2.2.2.2.1)] [] [(13, v_made_near), (11, z7.2.2.2.2.2.2)] [])) (r := (some (.int z7.1))) (rest := []) (As := []) hS9 (c_LN_adopt l g (mkS σ [(1539, v_likeness_ready), (769, v_made_size), (641, v_now_size), (2632, v_pairs_ready), (2372, v_search_reach), (1283, v_ways_ready)] [] [(13, v_made_near), (11, v_now_near)] []) z7.1 z7.2.1 z7.2.2.1 z7.2.2.2.1 z7.2.2.2.2.1 z7.2.2.2.2.2.1 z7.2.2.2.2.2.2 hc8) (mk_mk rfl rfl rfl rfl) (cwV 0 hts (gz_V mw_2_229 mw_2_231 ms_1_5 mw_1_1 mw_2_232) rfl rfl rfl hdV_X8_adopt ⟨Nat.le_of_ble_eq_true rfl, Nat.le_of_ble_eq_true rfl⟩) hK hG (ga_0 g _) rfl rfl rfl hl.1 rfl (Nat.le_of_ble_eq_true rfl) dX8_twice_79 (fun H locs hG => ?_)
    refine W.eq (g2 := F0 m 82 ls [.int z7.1]) rfl ?_
    cases h
    exact gx_iret hx hb hr hlocks hG dX8_twice_82
  have n31 : ∀ (k31 : Int32 → Int32 → Int32 → Int32 → Int32 → Int32 → Int32 → Int32 → (Nat → Int32) → (Nat → Int32) → Option (Int32 × Int32 × Int32 × Int32 × Int32 × Int32 × Int32 × (Nat → Int32) × (Nat → Int32))) (hk31 : ∀ (x1 : Int32) (x2 : Int32) (v_likeness_ready : Int32) (v_made_size : Int32) (v_now_size : Int32) (v_pairs_ready : Int32) (v_search_reach : Int32) (v_ways_ready : Int32) (v_made_near : Nat → Int32) (v_now_near : Nat → Int32) (H : Heap) (locs : List Loc) (ls : Array Slot), lv_has ls 4 [(0, .ref (g.2.1 0)), (1, .int x1), (2, .int x2)] → GW g s (mkS σ [(1539, v_likeness_ready), (769, v_made_size), (641, v_now_size), (2632, v_pairs_ready), (2372, v_search_reach), (1283, v_ways_ready)] [] [(13, v_made_near), (11, v_now_near)] []) H locs → k31 x1 x2 v_likeness_ready v_made_size v_now_size v_pairs_ready v_search_reach v_ways_ready v_made_near v_now_near = some (r, w_likeness_ready, w_made_size, w_now_size, w_pairs_ready, w_search_reach, w_ways_ready, w_made_near, w_now_near) → Wg p l e 3 101 s m args below meth c g (some (.int r)) (mkS σ [(1539, w_likeness_ready), (769, w_made_size), (641, w_now_size), (2632, w_pairs_ready), (2372, w_search_reach), (1283, w_ways_ready)] [] [(13, w_made_near), (11, w_now_near)] []) H locs (F0 m 31 ls [])) (x1 : Int32) (x2 : Int32) (v_likeness_ready : Int32) (v_made_size : Int32) (v_now_size : Int32) (v_pairs_ready : Int32) (v_search_reach : Int32) (v_ways_ready : Int32) (v_made_near : Nat → Int32) (v_now_near : Nat → Int32) (H : Heap) (locs : List Loc) (ls : Array Slot), lv_has ls 4 [(0, .ref (g.2.1 0)), (1, .int x1), (2, .int x2)] → GW g s (mkS σ [(1539, v_likeness_ready), (769, v_made_size), (641, v_now_size), (2632, v_pairs_ready), (2372, v_search_reach), (1283, v_ways_ready)] [] [(13, v_made_near), (11, v_now_near)] []) H locs → LN_twice_n31 k31 x1 x2 v_likeness_ready v_made_size v_now_size v_pairs_ready v_search_reach v_ways_ready v_made_near v_now_near = some (r, w_likeness_ready, w_made_size, w_now_size, w_pairs_ready, w_search_reach, w_ways_ready, w_made_near, w_now_near) → Wg p l e 3 101 s m args below meth c g (some (.int r)) (mkS σ [(1539, w_likeness_ready), (769, w_made_size), (641, w_now_size), (2632, w_pairs_ready), (2372, w_search_reach), (1283, w_ways_ready)] [] [(13, w_made_near), (11, w_now_near)] []) H locs (F0 m 31 ls []) := by
    intro k31 hk31 x1 x2 v_likeness_ready v_made_size v_now_size v_pairs_ready v_search_reach v_ways_ready v_made_near v_now_near H locs ls hl hG h
    unfold LN_twice_n31 at h
    refine lv_iload_n hx hb dX8_twice_31 rfl (lv_at hl 2 rfl) ?_
    refine lv_iload_n hx hb dX8_twice_32 rfl (lv_at hl 1 rfl) ?_
    refine lv_icmp_ge (tgt := 78) hx hb dX8_twice_33 (by decide) (fun c9 => ?_) (fun c9 => ?_)
    · have h := ite_t c9 h
      exact n78 v_likeness_ready v_made_size v_now_size v_pairs_ready v_search_reach v_ways_ready v_made_near v_now_near _ _ _ (lv_sub hl [0] rfl) hG h
    · have h := ite_f c9 h
      refine lv_iconst (v := (0 : Int32)) hx hb dX8_twice_36 (by decide) ?_
      refine lv_istore_n (lv' := [(3, .int (0 : Int32)), (0, .ref (g.2.1 0)), (1, .int x1), (2, .int x2)]) hx hb dX8_twice_37 rfl hl (Nat.le_of_ble_eq_true rfl) rfl (fun ls hl => ?_)
      exact l38 k31 hk31 FUEL x1 x2 (0 : Int32) v_likeness_ready v_made_size v_now_size v_pairs_ready v_search_reach v_ways_ready v_made_near v_now_near _ _ _ (lv_sub hl [1, 2, 3, 0] rfl) hG h
  have l31 : ∀  (F : Nat) (x1 : Int32) (x2 : Int32) (v_likeness_ready : Int32) (v_made_size : Int32) (v_now_size : Int32) (v_pairs_ready : Int32) (v_search_reach : Int32) (v_ways_ready : Int32) (v_made_near : Nat → Int32) (v_now_near : Nat → Int32) (H : Heap) (locs : List Loc) (ls : Array Slot), lv_has ls 4 [(0, .ref (g.2.1 0)), (1, .int x1), (2, .int x2)] → GW g s (mkS σ [(1539, v_likeness_ready), (769, v_made_size), (641, v_now_size), (2632, v_pairs_ready), (2372, v_search_reach), (1283, v_ways_ready)] [] [(13, v_made_near), (11, v_now_near)] []) H locs → LN_twice_l31 F x1 x2 v_likeness_ready v_made_size v_now_size v_pairs_ready v_search_reach v_ways_ready v_made_near v_now_near = some (r, w_likeness_ready, w_made_size, w_now_size, w_pairs_ready, w_search_reach, w_ways_ready, w_made_near, w_now_near) → Wg p l e 3 101 s m args below meth c g (some (.int r)) (mkS σ [(1539, w_likeness_ready), (769, w_made_size), (641, w_now_size), (2632, w_pairs_ready), (2372, w_search_reach), (1283, w_ways_ready)] [] [(13, w_made_near), (11, w_now_near)] []) H locs (F0 m 31 ls []) := by
    intro F
    induction F with
    | zero => intro x1 x2 v_likeness_ready v_made_size v_now_size v_pairs_ready v_search_reach v_ways_ready v_made_near v_now_near H locs ls hl hG h; exact no_some h
    | succ F ih => intro x1 x2 v_likeness_ready v_made_size v_now_size v_pairs_ready v_search_reach v_ways_ready v_made_near v_now_near H locs ls hl hG h; exact n31 (fun x1 x2 v_likeness_ready v_made_size v_now_size v_pairs_ready v_search_reach v_ways_ready v_made_near v_now_near => LN_twice_l31 F x1 x2 v_likeness_ready v_made_size v_now_size v_pairs_ready v_search_reach v_ways_ready v_made_near v_now_near) ih x1 x2 v_likeness_ready v_made_size v_now_size v_pairs_ready v_search_reach v_ways_ready v_made_near v_now_near H locs ls hl hG h
  refine lv_aload_n hx hb dX8_twice_0 rfl (lv_at hl 0 rfl) ?_
  refine gx_get (v := .ref (g.2.1 10)) (C := RX8) (T := TX8) (N := 13) hx hb hts mc_X8 hown hK hG (ga_0 g _) rfl 1 (by decide) hw0 rfl rfl dX8_twice_1 ?_
  refine gx_get (v := .int (σ.1 641)) (C := RX2) (T := TX2) (N := 2) hx hb hts mc_X2 hown hK hG (ga_10 g _) rfl 1 (by decide) hw2 rfl rfl dX8_twice_4 ?_
  refine lv_istore_n (lv' := [(1, .int (σ.1 641)), (0, .ref (g.2.1 0))]) hx hb dX8_twice_7 rfl hl (Nat.le_of_ble_eq_true rfl) rfl (fun ls hl => ?_)
  refine lv_iconst (v := (2 : Int32)) hx hb dX8_twice_8 (by decide) ?_
  refine lv_iload_n hx hb dX8_twice_9 rfl (lv_at hl 0 rfl) ?_
  refine lv_imul hx hb dX8_twice_10 ?_
  refine lv_bipush (v := (32 : Int32)) hx hb dX8_twice_11 (by decide) ?_
  refine lv_icmp_le (tgt := 19) hx hb dX8_twice_13 (by decide) (fun c10 => ?_) (fun c10 => ?_)
  · have h := ite_t c10 h
    refine lv_aload_n hx hb dX8_twice_19 rfl (lv_at hl 1 rfl) ?_
    refine gx_get (v := .ref (g.2.1 12)) (C := RX8) (T := TX8) (N := 13) hx hb hts mc_X8 hown hK hG (ga_0 g _) rfl 2 (by decide) hw1 rfl rfl dX8_twice_20 ?_
    refine lv_iconst (v := (2 : Int32)) hx hb dX8_twice_23 (by decide) ?_
    refine lv_iload_n hx hb dX8_twice_24 rfl (lv_at hl 0 rfl) ?_
    refine lv_imul hx hb dX8_twice_25 ?_
    obtain ⟨z11, hc12, h⟩ := bnd_some h
    refine gx_cV (σ' := (mkS σ [(1539, (σ.1 1539)), (769, z11.1), (641, (σ.1 641)), (2632, (σ.1 2632)), (2372, (σ.1 2372)), (1283, (σ.1 1283))] [] [(13, z11.2), (11, (σ.2.2.1 11))] [])) (r := none) (rest := []) (As := [.int ((2 : Int32) * (σ.1 641))]) hS9 (c_Net_empty_12 l g (mkS σ [(1539, (σ.1 1539)), (769, (σ.1 769)), (641, (σ.1 641)), (2632, (σ.1 2632)), (2372, (σ.1 2372)), (1283, (σ.1 1283))] [] [(13, (σ.2.2.1 13)), (11, (σ.2.2.1 11))] []) ((2 : Int32) * (σ.1 641)) z11.1 z11.2 hc12) (mk_mk rfl rfl rfl rfl) (cwV 1 hts (gz_V mw_2_109 mw_2_110 mw_2_111 mw_1_3 mw_2_112) rfl rfl rfl hdV_X2_empty ⟨Nat.le_of_ble_eq_true rfl, Nat.le_of_ble_eq_true rfl⟩) hK hG (ga_12 g _) rfl rfl rfl hl.1 rfl (Nat.le_of_ble_eq_true rfl) dX8_twice_26 (fun H locs hG => ?_)
    refine W.eq (g2 := F0 m 29 ls []) rfl ?_
    refine lv_iconst (v := (0 : Int32)) hx hb dX8_twice_29 (by decide) ?_
    refine lv_istore_n (lv' := [(2, .int (0 : Int32)), (1, .int (σ.1 641)), (0, .ref (g.2.1 0))]) hx hb dX8_twice_30 rfl hl (Nat.le_of_ble_eq_true rfl) rfl (fun ls hl => ?_)
    exact l31 FUEL (σ.1 641) (0 : Int32) (σ.1 1539) z11.1 (σ.1 641) (σ.1 2632) (σ.1 2372) (σ.1 1283) z11.2 (σ.2.2.1 11) _ _ _ (lv_sub hl [2, 1, 0] rfl) hG h
  · have h := ite_f c10 h
    refine lv_bipush (v := (-2 : Int32)) hx hb dX8_twice_16 (by decide) ?_
    cases h
    exact gx_iret hx hb hr hlocks hG dX8_twice_18

set_option maxHeartbeats 4000000 in
set_option maxRecDepth 100000 in
theorem c_JA_fillL_34 (l : Launch) (g : GC) (σ : St) (x1 : Int64) (w_r0 : Nat → Int64) (h : JA_fillL x1 6 (σ.2.2.2 34) = some w_r0) : Cn l g yJ7_fill_d0a16 (Cond.code yJ7_fill_d0a16 cJ7_fill_d0a16 5 none :: wG) 0 0 [.ref (g.2.1 34), .long x1] σ none (mkS σ [] [] [] [(34, w_r0)]) := by
  unfold Cn
  refine Met.ofW (cc := cJ7_fill_d0a16) (maxL := 5) (ret := none) (by decide) rfl ?_
  intro p e s m args below meth c s₁ B hml hv
  obtain ⟨hargs, hP0, hK⟩ := hv
  have hx := B.exec
  have hb := B.bytes
  have hr := B.returns
  have hts : ∀ w ∈ wG, w.before args s = true := fun w h => atoms_spec (ws := (Cond.code yJ7_fill_d0a16 cJ7_fill_d0a16 5 none :: wG)) B.pre w (List.mem_cons_of_mem _ h)
  have hown : s.vm.findClass RJ7 = some m.cls := findClass_of_methodNamed B.named
  have hlocks := B.notSynchronized
  have hf9 : entryFrame m args 5 = _ := (congrArg (fun a => entryFrame m a 5) hargs).trans (lg_entry_eq m [.ref (g.2.1 34), .long x1] 5)
  show Wg p l e 0 0 s m args below meth c g none (mkS σ [] [] [] [(34, w_r0)]) s.heap [] (entryFrame m args 5)
  rw [hf9]
  have hl := lv_entry ([.ref (g.2.1 34), .long x1]) (n := 5) (Nat.le_of_ble_eq_true rfl)
  generalize (lg_sl ([.ref (g.2.1 34), .long x1]) ++ List.replicate (5 - (lg_sl ([.ref (g.2.1 34), .long x1])).length) Slot.unset).toArray = ls at hl ⊢
  have hl : lv_has ls 5 [(0, .ref (g.2.1 34)), (1, .long x1)] := hl
  have hG : GW g s σ s.heap [] := ⟨hP0, va_S.rf⟩
  have hG : GW g s (mkS σ [] [] [] [(34, (σ.2.2.2 34))]) s.heap [] := GW_self [] [] [] [34] hG
  unfold JA_fillL at h
  have n22 : ∀ (v_r0 : Nat → Int64) (H : Heap) (locs : List Loc) (ls : Array Slot), lv_has ls 5 [] → GW g s (mkS σ [] [] [] [(34, v_r0)]) H locs → JA_fillL_n22 6 v_r0 = some w_r0 → Wg p l e 0 0 s m args below meth c g none (mkS σ [] [] [] [(34, w_r0)]) H locs (F0 m 22 ls []) := by
    intro v_r0 H locs ls hl hG h
    unfold JA_fillL_n22 at h
    cases h
    exact gx_vret hx hb hr hlocks hG dJ7_fill_d0a16_22
  have n6 : ∀ (k6 : Int64 → Int32 → Int32 → (Nat → Int64) → Option ((Nat → Int64))) (hk6 : ∀ (x1 : Int64) (x3 : Int32) (x4 : Int32) (v_r0 : Nat → Int64) (H : Heap) (locs : List Loc) (ls : Array Slot), lv_has ls 5 [(0, .ref (g.2.1 34)), (1, .long x1), (3, .int x3), (4, .int x4)] → GW g s (mkS σ [] [] [] [(34, v_r0)]) H locs → k6 x1 x3 x4 v_r0 = some w_r0 → Wg p l e 0 0 s m args below meth c g none (mkS σ [] [] [] [(34, w_r0)]) H locs (F0 m 6 ls [])) (x1 : Int64) (x3 : Int32) (x4 : Int32) (v_r0 : Nat → Int64) (H : Heap) (locs : List Loc) (ls : Array Slot), lv_has ls 5 [(0, .ref (g.2.1 34)), (1, .long x1), (3, .int x3), (4, .int x4)] → GW g s (mkS σ [] [] [] [(34, v_r0)]) H locs → JA_fillL_n6 k6 6 x1 x3 x4 v_r0 = some w_r0 → Wg p l e 0 0 s m args below meth c g none (mkS σ [] [] [] [(34, w_r0)]) H locs (F0 m 6 ls []) := by
    intro k6 hk6 x1 x3 x4 v_r0 H locs ls hl hG h
    unfold JA_fillL_n6 at h
    refine lv_iload_n hx hb dJ7_fill_d0a16_6 rfl (lv_at hl 2 rfl) ?_
    refine lv_iload hx hb dJ7_fill_d0a16_7 (lv_at hl 3 rfl) ?_
    refine lv_icmp_ge (tgt := 22) hx hb dJ7_fill_d0a16_9 (by decide) (fun c1 => ?_) (fun c1 => ?_)
    · have h := ite_t c1 h
      exact n22 v_r0 _ _ _ (lv_sub hl [] rfl) hG h
    · have h := ite_f c1 h
      refine lv_aload_n hx hb dJ7_fill_d0a16_12 rfl (lv_at hl 0 rfl) ?_
      refine lv_iload_n hx hb dJ7_fill_d0a16_13 rfl (lv_at hl 2 rfl) ?_
      refine lv_lload_n hx hb dJ7_fill_d0a16_14 rfl (lv_at hl 1 rfl) ?_
      obtain ⟨hg2, h⟩ := gd_some h
      refine gx_last (σ' := (mkS σ [] [] [] [(34, (vp_updL v_r0 (x3.toNatClampNeg) x1))])) (f := v_r0) hx hb hK hG (ga_34 g _) hg2 ((gs_34 g _ _).trans (congrArg (g_cells g) (mk_d 0 rfl rfl))) dJ7_fill_d0a16_15 (fun H locs hG => ?_)
      refine lv_iinc (v := (x3 + (1 : Int32))) (lv' := [(3, .int (x3 + (1 : Int32))), (0, .ref (g.2.1 34)), (1, .long x1), (4, .int x4)]) hx hb dJ7_fill_d0a16_16 hl (k := 2) rfl (congrArg (fun z => x3 + z) (by decide)) (Nat.le_of_ble_eq_true rfl) rfl (fun ls hl => ?_)
      refine lv_goto (tgt := 6) hx hb dJ7_fill_d0a16_19 (by decide) ?_
      exact hk6 x1 (x3 + (1 : Int32)) x4 (vp_updL v_r0 (x3.toNatClampNeg) x1) _ _ _ (lv_sub hl [1, 2, 0, 3] rfl) hG h
  have l6 : ∀  (F : Nat) (x1 : Int64) (x3 : Int32) (x4 : Int32) (v_r0 : Nat → Int64) (H : Heap) (locs : List Loc) (ls : Array Slot), lv_has ls 5 [(0, .ref (g.2.1 34)), (1, .long x1), (3, .int x3), (4, .int x4)] → GW g s (mkS σ [] [] [] [(34, v_r0)]) H locs → JA_fillL_l6 6 F x1 x3 x4 v_r0 = some w_r0 → Wg p l e 0 0 s m args below meth c g none (mkS σ [] [] [] [(34, w_r0)]) H locs (F0 m 6 ls []) := by
    intro F
    induction F with
    | zero => intro x1 x3 x4 v_r0 H locs ls hl hG h; exact no_some h
    | succ F ih => intro x1 x3 x4 v_r0 H locs ls hl hG h; exact n6 (fun x1 x3 x4 v_r0 => JA_fillL_l6 6 F x1 x3 x4 v_r0) ih x1 x3 x4 v_r0 H locs ls hl hG h
  refine lv_iconst (v := (0 : Int32)) hx hb dJ7_fill_d0a16_0 (by decide) ?_
  refine lv_istore_n (lv' := [(3, .int (0 : Int32)), (0, .ref (g.2.1 34)), (1, .long x1)]) hx hb dJ7_fill_d0a16_1 rfl hl (Nat.le_of_ble_eq_true rfl) rfl (fun ls hl => ?_)
  refine lv_aload_n hx hb dJ7_fill_d0a16_2 rfl (lv_at hl 1 rfl) ?_
  refine gx_alen (v := (Int32.ofNat 6)) hx hb hK hG 1 (ga_34 g _) rfl rfl dJ7_fill_d0a16_3 ?_
  refine lv_istore (lv' := [(4, .int (Int32.ofNat 6)), (3, .int (0 : Int32)), (0, .ref (g.2.1 34)), (1, .long x1)]) hx hb dJ7_fill_d0a16_4 hl (Nat.le_of_ble_eq_true rfl) rfl (fun ls hl => ?_)
  exact l6 FUEL x1 (0 : Int32) (Int32.ofNat 6) (σ.2.2.2 34) _ _ _ (lv_sub hl [2, 3, 1, 0] rfl) hG h

set_option maxHeartbeats 4000000 in
set_option maxRecDepth 100000 in
theorem c_Td_countWalks (l : Launch) (g : GC) (σ : St) (x1 : Int32) (x2 : Int32) (r : Int64) (w_walkRow : Nat → Int64) (h : Td_countWalks x1 x2 (σ.1 1800) (σ.2.2.1 29) (σ.2.2.1 30) (σ.2.2.2 34) = some (r, w_walkRow)) : Cn l g yX6_countWalks (Cond.code yX6_countWalks cX6_countWalks 11 (some .long) :: wG) 1 24 [.ref (g.2.1 28), .int x1, .int x2] σ (some (.long r)) (mkS σ [] [] [] [(34, w_walkRow)]) := by
  unfold Cn
  refine Met.ofW (cc := cX6_countWalks) (maxL := 11) (ret := (some .long)) (by decide) rfl ?_
  intro p e s m args below meth c s₁ B hml hv
  obtain ⟨hargs, hP0, hK⟩ := hv
  have hx := B.exec
  have hb := B.bytes
  have hr := B.returns
  have hts : ∀ w ∈ wG, w.before args s = true := fun w h => atoms_spec (ws := (Cond.code yX6_countWalks cX6_countWalks 11 (some .long) :: wG)) B.pre w (List.mem_cons_of_mem _ h)
  have hown : s.vm.findClass RX6 = some m.cls := findClass_of_methodNamed B.named
  have hlocks := B.notSynchronized
  have hS9 : CallFix p m c cX6_countWalks 11 s args wG RX6 := ⟨hx, hb, hml, hown, hts⟩
  have hw0 := hts _ mw_1_166
  have hw1 := hts _ mw_1_159
  have hw2 := hts _ mw_1_157
  have hw3 := hts _ mw_1_171
  have hf9 : entryFrame m args 11 = _ := (congrArg (fun a => entryFrame m a 11) hargs).trans (lg_entry_eq m [.ref (g.2.1 28), .int x1, .int x2] 11)
  show Wg p l e 1 24 s m args below meth c g (some (.long r)) (mkS σ [] [] [] [(34, w_walkRow)]) s.heap [] (entryFrame m args 11)
  rw [hf9]
  have hl := lv_entry ([.ref (g.2.1 28), .int x1, .int x2]) (n := 11) (Nat.le_of_ble_eq_true rfl)
  generalize (lg_sl ([.ref (g.2.1 28), .int x1, .int x2]) ++ List.replicate (11 - (lg_sl ([.ref (g.2.1 28), .int x1, .int x2])).length) Slot.unset).toArray = ls at hl ⊢
  have hl : lv_has ls 11 [(0, .ref (g.2.1 28)), (1, .int x1), (2, .int x2)] := hl
  have hG : GW g s σ s.heap [] := ⟨hP0, va_S.rf⟩
  have hG : GW g s (mkS σ [] [] [] [(34, (σ.2.2.2 34))]) s.heap [] := GW_self [] [] [] [34] hG
  unfold Td_countWalks at h
  have n68 : ∀ (k28 : Int32 → Int32 → Int32 → Int64 → Int32 → (Nat → Int64) → Option (Int64 × (Nat → Int64))) (hk28 : ∀ (x1 : Int32) (x2 : Int32) (x3 : Int32) (x4 : Int64) (x6 : Int32) (v_walkRow : Nat → Int64) (H : Heap) (locs : List Loc) (ls : Array Slot), lv_has ls 11 [(0, .ref (g.2.1 28)), (1, .int x1), (2, .int x2), (3, .int x3), (4, .long x4), (6, .int x6)] → GW g s (mkS σ [] [] [] [(34, v_walkRow)]) H locs → k28 x1 x2 x3 x4 x6 v_walkRow = some (r, w_walkRow) → Wg p l e 1 24 s m args below meth c g (some (.long r)) (mkS σ [] [] [] [(34, w_walkRow)]) H locs (F0 m 28 ls [])) (x1 : Int32) (x2 : Int32) (x3 : Int32) (x4 : Int64) (x6 : Int32) (x7 : Int64) (t0 : Int64) (v_walkRow : Nat → Int64) (H : Heap) (locs : List Loc) (ls : Array Slot), lv_has ls 11 [(0, .ref (g.2.1 28)), (1, .int x1), (2, .int x2), (3, .int x3), (4, .long x4), (6, .int x6), (7, .long x7)] → GW g s (mkS σ [] [] [] [(34, v_walkRow)]) H locs → Td_countWalks_n68 k28 (σ.2.2.1 29) (σ.2.2.1 30) x1 x2 x3 x4 x6 x7 t0 v_walkRow = some (r, w_walkRow) → Wg p l e 1 24 s m args below meth c g (some (.long r)) (mkS σ [] [] [] [(34, w_walkRow)]) H locs (F0 m 68 ls [.long t0]) := by
    intro k28 hk28 x1 x2 x3 x4 x6 x7 t0 v_walkRow H locs ls hl hG h
    unfold Td_countWalks_n68 at h
    refine lv_lstore (lv' := [(9, .long t0), (0, .ref (g.2.1 28)), (1, .int x1), (2, .int x2), (3, .int x3), (4, .long x4), (6, .int x6), (7, .long x7)]) hx hb dX6_countWalks_68 hl (Nat.le_of_ble_eq_true rfl) rfl (fun ls hl => ?_)
    refine lv_aload_n hx hb dX6_countWalks_70 rfl (lv_at hl 1 rfl) ?_
    refine gx_get (v := .ref (g.2.1 34)) (C := RX6) (T := TX6) (N := 13) hx hb hts mc_X6 hown hK hG (ga_28 g _) rfl 5 (by decide) hw0 rfl rfl dX6_countWalks_71 ?_
    refine lv_iload hx hb dX6_countWalks_74 (lv_at hl 6 rfl) ?_
    refine lv_aload_n hx hb dX6_countWalks_76 rfl (lv_at hl 1 rfl) ?_
    refine gx_get (v := .ref (g.2.1 30)) (C := RX6) (T := TX6) (N := 13) hx hb hts mc_X6 hown hK hG (ga_28 g _) rfl 1 (by decide) hw1 rfl rfl dX6_countWalks_77 ?_
    refine lv_iload hx hb dX6_countWalks_80 (lv_at hl 6 rfl) ?_
    obtain ⟨hg1, h⟩ := gd_some h
    refine gx_iald (f := (σ.2.2.1 30)) hx hb hK hG (ga_30 g _) hg1 dX6_countWalks_82 ?_
    refine lv_i2l hx hb dX6_countWalks_83 rfl ?_
    refine lv_lload hx hb dX6_countWalks_84 (lv_at hl 5 rfl) ?_
    refine lv_lmul hx hb dX6_countWalks_86 ?_
    refine lv_aload_n hx hb dX6_countWalks_87 rfl (lv_at hl 1 rfl) ?_
    refine lv_iload hx hb dX6_countWalks_88 (lv_at hl 6 rfl) ?_
    obtain ⟨z2, hc3, h⟩ := bnd_some h
    refine gx_cV (σ' := (mkS σ [] [] [] [(34, v_walkRow)])) (r := (some (.int z2))) (rest := [.long ((((σ.2.2.1 30) (x6.toNatClampNeg)).toInt64) * x4), .int x6, .ref (g.2.1 34)]) (As := [.int x6]) hS9 (c_Td_level l g (mkS σ [] [] [] [(34, v_walkRow)]) x6 z2 hc3) rfl (cwV 1 hts (gz_V mw_3_156 mw_3_157 mw_3_158 mw_1_7 mw_3_159) rfl rfl rfl hdV_X6_level ⟨Nat.le_of_ble_eq_true rfl, Nat.le_of_ble_eq_true rfl⟩) hK hG (ga_28 g _) rfl rfl rfl hl.1 rfl (Nat.le_of_ble_eq_true rfl) dX6_countWalks_90 (fun H locs hG => ?_)
    refine W.eq (g2 := F0 m 93 ls [.int z2, .long ((((σ.2.2.1 30) (x6.toNatClampNeg)).toInt64) * x4), .int x6, .ref (g.2.1 34)]) rfl ?_
    refine lv_i2l hx hb dX6_countWalks_93 rfl ?_
    refine lv_lload hx hb dX6_countWalks_94 (lv_at hl 7 rfl) ?_
    refine lv_lmul hx hb dX6_countWalks_96 ?_
    refine lv_ladd hx hb dX6_countWalks_97 ?_
    refine lv_aload_n hx hb dX6_countWalks_98 rfl (lv_at hl 1 rfl) ?_
    refine gx_get (v := .ref (g.2.1 29)) (C := RX6) (T := TX6) (N := 13) hx hb hts mc_X6 hown hK hG (ga_28 g _) rfl 0 (by decide) hw2 rfl rfl dX6_countWalks_99 ?_
    refine lv_iload hx hb dX6_countWalks_102 (lv_at hl 6 rfl) ?_
    refine gx_iald (f := (σ.2.2.1 29)) hx hb hK hG (ga_29 g _) hg1 dX6_countWalks_104 ?_
    refine lv_i2l hx hb dX6_countWalks_105 rfl ?_
    refine lv_lload hx hb dX6_countWalks_106 (lv_at hl 0 rfl) ?_
    refine lv_lmul hx hb dX6_countWalks_108 ?_
    refine lv_ladd hx hb dX6_countWalks_109 ?_
    refine lv_topl (fun y4 ey4 => ?_)
    have h := lt_at h ey4
    refine gx_last (σ' := (mkS σ [] [] [] [(34, (vp_updL v_walkRow (x6.toNatClampNeg) y4))])) (f := v_walkRow) hx hb hK hG (ga_34 g _) hg1 ((gs_34 g _ _).trans (congrArg (g_cells g) (mk_d 0 rfl rfl))) dX6_countWalks_110 (fun H locs hG => ?_)
    refine lv_lload hx hb dX6_countWalks_111 (lv_at hl 7 rfl) ?_
    refine lv_lstore (lv' := [(4, .long x7), (9, .long t0), (0, .ref (g.2.1 28)), (1, .int x1), (2, .int x2), (3, .int x3), (6, .int x6), (7, .long x7)]) hx hb dX6_countWalks_113 hl (Nat.le_of_ble_eq_true rfl) rfl (fun ls hl => ?_)
    refine lv_iinc (v := (x6 + (1 : Int32))) (lv' := [(6, .int (x6 + (1 : Int32))), (4, .long x7), (9, .long t0), (0, .ref (g.2.1 28)), (1, .int x1), (2, .int x2), (3, .int x3), (7, .long x7)]) hx hb dX6_countWalks_115 hl (k := 6) rfl (congrArg (fun z => x6 + z) (by decide)) (Nat.le_of_ble_eq_true rfl) rfl (fun ls hl => ?_)
    refine lv_goto (tgt := 28) hx hb dX6_countWalks_118 (by decide) ?_
    exact hk28 x1 x2 x3 x7 (x6 + (1 : Int32)) (vp_updL v_walkRow (x6.toNatClampNeg) y4) _ _ _ (lv_sub hl [3, 4, 5, 6, 1, 0] rfl) hG h
  have n121 : ∀ (k17 : Int32 → Int32 → Int32 → (Nat → Int64) → Option (Int64 × (Nat → Int64))) (hk17 : ∀ (x1 : Int32) (x2 : Int32) (x3 : Int32) (v_walkRow : Nat → Int64) (H : Heap) (locs : List Loc) (ls : Array Slot), lv_has ls 11 [(0, .ref (g.2.1 28)), (1, .int x1), (2, .int x2), (3, .int x3)] → GW g s (mkS σ [] [] [] [(34, v_walkRow)]) H locs → k17 x1 x2 x3 v_walkRow = some (r, w_walkRow) → Wg p l e 1 24 s m args below meth c g (some (.long r)) (mkS σ [] [] [] [(34, w_walkRow)]) H locs (F0 m 17 ls [])) (x1 : Int32) (x2 : Int32) (x3 : Int32) (v_walkRow : Nat → Int64) (H : Heap) (locs : List Loc) (ls : Array Slot), lv_has ls 11 [(0, .ref (g.2.1 28)), (1, .int x1), (2, .int x2), (3, .int x3)] → GW g s (mkS σ [] [] [] [(34, v_walkRow)]) H locs → Td_countWalks_n121 k17 x1 x2 x3 v_walkRow = some (r, w_walkRow) → Wg p l e 1 24 s m args below meth c g (some (.long r)) (mkS σ [] [] [] [(34, w_walkRow)]) H locs (F0 m 121 ls []) := by
    intro k17 hk17 x1 x2 x3 v_walkRow H locs ls hl hG h
    unfold Td_countWalks_n121 at h
    refine lv_iinc (v := (x3 + (1 : Int32))) (lv' := [(3, .int (x3 + (1 : Int32))), (0, .ref (g.2.1 28)), (1, .int x1), (2, .int x2)]) hx hb dX6_countWalks_121 hl (k := 3) rfl (congrArg (fun z => x3 + z) (by decide)) (Nat.le_of_ble_eq_true rfl) rfl (fun ls hl => ?_)
    refine lv_goto (tgt := 17) hx hb dX6_countWalks_124 (by decide) ?_
    exact hk17 x1 x2 (x3 + (1 : Int32)) v_walkRow _ _ _ (lv_sub hl [1, 2, 3, 0] rfl) hG h
  have n28 : ∀ (k17 : Int32 → Int32 → Int32 → (Nat → Int64) → Option (Int64 × (Nat → Int64))) (hk17 : ∀ (x1 : Int32) (x2 : Int32) (x3 : Int32) (v_walkRow : Nat → Int64) (H : Heap) (locs : List Loc) (ls : Array Slot), lv_has ls 11 [(0, .ref (g.2.1 28)), (1, .int x1), (2, .int x2), (3, .int x3)] → GW g s (mkS σ [] [] [] [(34, v_walkRow)]) H locs → k17 x1 x2 x3 v_walkRow = some (r, w_walkRow) → Wg p l e 1 24 s m args below meth c g (some (.long r)) (mkS σ [] [] [] [(34, w_walkRow)]) H locs (F0 m 17 ls [])) (k28 : Int32 → Int32 → Int32 → Int64 → Int32 → (Nat → Int64) → Option (Int64 × (Nat → Int64))) (hk28 : ∀ (x1 : Int32) (x2 : Int32) (x3 : Int32) (x4 : Int64) (x6 : Int32) (v_walkRow : Nat → Int64) (H : Heap) (locs : List Loc) (ls : Array Slot), lv_has ls 11 [(0, .ref (g.2.1 28)), (1, .int x1), (2, .int x2), (3, .int x3), (4, .long x4), (6, .int x6)] → GW g s (mkS σ [] [] [] [(34, v_walkRow)]) H locs → k28 x1 x2 x3 x4 x6 v_walkRow = some (r, w_walkRow) → Wg p l e 1 24 s m args below meth c g (some (.long r)) (mkS σ [] [] [] [(34, w_walkRow)]) H locs (F0 m 28 ls [])) (x1 : Int32) (x2 : Int32) (x3 : Int32) (x4 : Int64) (x6 : Int32) (v_walkRow : Nat → Int64) (H : Heap) (locs : List Loc) (ls : Array Slot), lv_has ls 11 [(0, .ref (g.2.1 28)), (1, .int x1), (2, .int x2), (3, .int x3), (4, .long x4), (6, .int x6)] → GW g s (mkS σ [] [] [] [(34, v_walkRow)]) H locs → Td_countWalks_n28 k17 k28 (σ.1 1800) (σ.2.2.1 29) (σ.2.2.1 30) x1 x2 x3 x4 x6 v_walkRow = some (r, w_walkRow) → Wg p l e 1 24 s m args below meth c g (some (.long r)) (mkS σ [] [] [] [(34, w_walkRow)]) H locs (F0 m 28 ls []) := by
    intro k17 hk17 k28 hk28 x1 x2 x3 x4 x6 v_walkRow H locs ls hl hG h
    unfold Td_countWalks_n28 at h
    refine lv_iload hx hb dX6_countWalks_28 (lv_at hl 5 rfl) ?_
    refine lv_aload_n hx hb dX6_countWalks_30 rfl (lv_at hl 0 rfl) ?_
    refine gx_get (v := .int (σ.1 1800)) (C := RX6) (T := TX6) (N := 13) hx hb hts mc_X6 hown hK hG (ga_28 g _) rfl 8 (by decide) hw3 rfl rfl dX6_countWalks_31 ?_
    refine lv_icmp_gt (tgt := 121) hx hb dX6_countWalks_34 (by decide) (fun c5 => ?_) (fun c5 => ?_)
    · have h := ite_t c5 h
      exact n121 k17 hk17 x1 x2 x3 v_walkRow _ _ _ (lv_sub hl [0, 1, 2, 3] rfl) hG h
    · have h := ite_f c5 h
      refine lv_aload_n hx hb dX6_countWalks_37 rfl (lv_at hl 0 rfl) ?_
      refine gx_get (v := .ref (g.2.1 34)) (C := RX6) (T := TX6) (N := 13) hx hb hts mc_X6 hown hK hG (ga_28 g _) rfl 5 (by decide) hw0 rfl rfl dX6_countWalks_38 ?_
      refine lv_iload hx hb dX6_countWalks_41 (lv_at hl 5 rfl) ?_
      obtain ⟨hg6, h⟩ := gd_some h
      refine gx_lald (f := v_walkRow) hx hb hK hG (ga_34 g _) hg6 dX6_countWalks_43 ?_
      refine lv_lstore (lv' := [(7, .long (v_walkRow (x6.toNatClampNeg))), (0, .ref (g.2.1 28)), (1, .int x1), (2, .int x2), (3, .int x3), (4, .long x4), (6, .int x6)]) hx hb dX6_countWalks_44 hl (Nat.le_of_ble_eq_true rfl) rfl (fun ls hl => ?_)
      refine lv_iload hx hb dX6_countWalks_46 (lv_at hl 6 rfl) ?_
      refine lv_aload_n hx hb dX6_countWalks_48 rfl (lv_at hl 1 rfl) ?_
      refine gx_get (v := .int (σ.1 1800)) (C := RX6) (T := TX6) (N := 13) hx hb hts mc_X6 hown hK hG (ga_28 g _) rfl 8 (by decide) hw3 rfl rfl dX6_countWalks_49 ?_
      refine lv_icmp_ge (tgt := 67) hx hb dX6_countWalks_52 (by decide) (fun c7 => ?_) (fun c7 => ?_)
      · have h := ite_t c7 h
        refine lv_lconst (v := (0 : Int64)) hx hb dX6_countWalks_67 (by decide) ?_
        exact n68 k28 hk28 x1 x2 x3 x4 x6 (v_walkRow (x6.toNatClampNeg)) (0 : Int64) v_walkRow _ _ _ (lv_sub hl [1, 2, 3, 4, 5, 6, 0] rfl) hG h
      · have h := ite_f c7 h
        refine lv_aload_n hx hb dX6_countWalks_55 rfl (lv_at hl 1 rfl) ?_
        refine gx_get (v := .ref (g.2.1 34)) (C := RX6) (T := TX6) (N := 13) hx hb hts mc_X6 hown hK hG (ga_28 g _) rfl 5 (by decide) hw0 rfl rfl dX6_countWalks_56 ?_
        refine lv_iload hx hb dX6_countWalks_59 (lv_at hl 6 rfl) ?_
        refine lv_iconst (v := (1 : Int32)) hx hb dX6_countWalks_61 (by decide) ?_
        refine lv_iadd hx hb dX6_countWalks_62 ?_
        obtain ⟨hg8, h⟩ := gd_some h
        refine gx_lald (f := v_walkRow) hx hb hK hG (ga_34 g _) hg8 dX6_countWalks_63 ?_
        refine lv_goto (tgt := 68) hx hb dX6_countWalks_64 (by decide) ?_
        exact n68 k28 hk28 x1 x2 x3 x4 x6 (v_walkRow (x6.toNatClampNeg)) (v_walkRow ((x6 + (1 : Int32)).toNatClampNeg)) v_walkRow _ _ _ (lv_sub hl [1, 2, 3, 4, 5, 6, 0] rfl) hG h
  have l28 : ∀ (k17 : Int32 → Int32 → Int32 → (Nat → Int64) → Option (Int64 × (Nat → Int64))) (hk17 : ∀ (x1 : Int32) (x2 : Int32) (x3 : Int32) (v_walkRow : Nat → Int64) (H : Heap) (locs : List Loc) (ls : Array Slot), lv_has ls 11 [(0, .ref (g.2.1 28)), (1, .int x1), (2, .int x2), (3, .int x3)] → GW g s (mkS σ [] [] [] [(34, v_walkRow)]) H locs → k17 x1 x2 x3 v_walkRow = some (r, w_walkRow) → Wg p l e 1 24 s m args below meth c g (some (.long r)) (mkS σ [] [] [] [(34, w_walkRow)]) H locs (F0 m 17 ls [])) (F : Nat) (x1 : Int32) (x2 : Int32) (x3 : Int32) (x4 : Int64) (x6 : Int32) (v_walkRow : Nat → Int64) (H : Heap) (locs : List Loc) (ls : Array Slot), lv_has ls 11 [(0, .ref (g.2.1 28)), (1, .int x1), (2, .int x2), (3, .int x3), (4, .long x4), (6, .int x6)] → GW g s (mkS σ [] [] [] [(34, v_walkRow)]) H locs → Td_countWalks_l28 k17 (σ.1 1800) (σ.2.2.1 29) (σ.2.2.1 30) F x1 x2 x3 x4 x6 v_walkRow = some (r, w_walkRow) → Wg p l e 1 24 s m args below meth c g (some (.long r)) (mkS σ [] [] [] [(34, w_walkRow)]) H locs (F0 m 28 ls []) := by
    intro k17 hk17 F
    induction F with
    | zero => intro x1 x2 x3 x4 x6 v_walkRow H locs ls hl hG h; exact no_some h
    | succ F ih => intro x1 x2 x3 x4 x6 v_walkRow H locs ls hl hG h; exact n28 k17 hk17 (fun x1 x2 x3 x4 x6 v_walkRow => Td_countWalks_l28 k17 (σ.1 1800) (σ.2.2.1 29) (σ.2.2.1 30) F x1 x2 x3 x4 x6 v_walkRow) ih x1 x2 x3 x4 x6 v_walkRow H locs ls hl hG h
  have n127 : ∀ (x1 : Int32) (v_walkRow : Nat → Int64) (H : Heap) (locs : List Loc) (ls : Array Slot), lv_has ls 11 [(0, .ref (g.2.1 28)), (1, .int x1)] → GW g s (mkS σ [] [] [] [(34, v_walkRow)]) H locs → Td_countWalks_n127 x1 v_walkRow = some (r, w_walkRow) → Wg p l e 1 24 s m args below meth c g (some (.long r)) (mkS σ [] [] [] [(34, w_walkRow)]) H locs (F0 m 127 ls []) := by
    intro x1 v_walkRow H locs ls hl hG h
    unfold Td_countWalks_n127 at h
    refine lv_aload_n hx hb dX6_countWalks_127 rfl (lv_at hl 0 rfl) ?_
    refine gx_get (v := .ref (g.2.1 34)) (C := RX6) (T := TX6) (N := 13) hx hb hts mc_X6 hown hK hG (ga_28 g _) rfl 5 (by decide) hw0 rfl rfl dX6_countWalks_128 ?_
    refine lv_iload_n hx hb dX6_countWalks_131 rfl (lv_at hl 1 rfl) ?_
    obtain ⟨hg9, h⟩ := gd_some h
    refine gx_lald (f := v_walkRow) hx hb hK hG (ga_34 g _) hg9 dX6_countWalks_132 ?_
    cases h
    exact gx_lret hx hb hr hlocks hG dX6_countWalks_133
  have n17 : ∀ (k17 : Int32 → Int32 → Int32 → (Nat → Int64) → Option (Int64 × (Nat → Int64))) (hk17 : ∀ (x1 : Int32) (x2 : Int32) (x3 : Int32) (v_walkRow : Nat → Int64) (H : Heap) (locs : List Loc) (ls : Array Slot), lv_has ls 11 [(0, .ref (g.2.1 28)), (1, .int x1), (2, .int x2), (3, .int x3)] → GW g s (mkS σ [] [] [] [(34, v_walkRow)]) H locs → k17 x1 x2 x3 v_walkRow = some (r, w_walkRow) → Wg p l e 1 24 s m args below meth c g (some (.long r)) (mkS σ [] [] [] [(34, w_walkRow)]) H locs (F0 m 17 ls [])) (x1 : Int32) (x2 : Int32) (x3 : Int32) (v_walkRow : Nat → Int64) (H : Heap) (locs : List Loc) (ls : Array Slot), lv_has ls 11 [(0, .ref (g.2.1 28)), (1, .int x1), (2, .int x2), (3, .int x3)] → GW g s (mkS σ [] [] [] [(34, v_walkRow)]) H locs → Td_countWalks_n17 k17 (σ.1 1800) (σ.2.2.1 29) (σ.2.2.1 30) x1 x2 x3 v_walkRow = some (r, w_walkRow) → Wg p l e 1 24 s m args below meth c g (some (.long r)) (mkS σ [] [] [] [(34, w_walkRow)]) H locs (F0 m 17 ls []) := by
    intro k17 hk17 x1 x2 x3 v_walkRow H locs ls hl hG h
    unfold Td_countWalks_n17 at h
    refine lv_iload_n hx hb dX6_countWalks_17 rfl (lv_at hl 3 rfl) ?_
    refine lv_iload_n hx hb dX6_countWalks_18 rfl (lv_at hl 2 rfl) ?_
    refine lv_icmp_ge (tgt := 127) hx hb dX6_countWalks_19 (by decide) (fun c10 => ?_) (fun c10 => ?_)
    · have h := ite_t c10 h
      exact n127 x1 v_walkRow _ _ _ (lv_sub hl [0, 1] rfl) hG h
    · have h := ite_f c10 h
      refine lv_lconst (v := (0 : Int64)) hx hb dX6_countWalks_22 (by decide) ?_
      refine lv_lstore (lv' := [(4, .long (0 : Int64)), (0, .ref (g.2.1 28)), (1, .int x1), (2, .int x2), (3, .int x3)]) hx hb dX6_countWalks_23 hl (Nat.le_of_ble_eq_true rfl) rfl (fun ls hl => ?_)
      refine lv_iconst (v := (0 : Int32)) hx hb dX6_countWalks_25 (by decide) ?_
      refine lv_istore (lv' := [(6, .int (0 : Int32)), (4, .long (0 : Int64)), (0, .ref (g.2.1 28)), (1, .int x1), (2, .int x2), (3, .int x3)]) hx hb dX6_countWalks_26 hl (Nat.le_of_ble_eq_true rfl) rfl (fun ls hl => ?_)
      exact l28 k17 hk17 FUEL x1 x2 x3 (0 : Int64) (0 : Int32) v_walkRow _ _ _ (lv_sub hl [2, 3, 4, 5, 1, 0] rfl) hG h
  have l17 : ∀  (F : Nat) (x1 : Int32) (x2 : Int32) (x3 : Int32) (v_walkRow : Nat → Int64) (H : Heap) (locs : List Loc) (ls : Array Slot), lv_has ls 11 [(0, .ref (g.2.1 28)), (1, .int x1), (2, .int x2), (3, .int x3)] → GW g s (mkS σ [] [] [] [(34, v_walkRow)]) H locs → Td_countWalks_l17 (σ.1 1800) (σ.2.2.1 29) (σ.2.2.1 30) F x1 x2 x3 v_walkRow = some (r, w_walkRow) → Wg p l e 1 24 s m args below meth c g (some (.long r)) (mkS σ [] [] [] [(34, w_walkRow)]) H locs (F0 m 17 ls []) := by
    intro F
    induction F with
    | zero => intro x1 x2 x3 v_walkRow H locs ls hl hG h; exact no_some h
    | succ F ih => intro x1 x2 x3 v_walkRow H locs ls hl hG h; exact n17 (fun x1 x2 x3 v_walkRow => Td_countWalks_l17 (σ.1 1800) (σ.2.2.1 29) (σ.2.2.1 30) F x1 x2 x3 v_walkRow) ih x1 x2 x3 v_walkRow H locs ls hl hG h
  refine lv_aload_n hx hb dX6_countWalks_0 rfl (lv_at hl 0 rfl) ?_
  refine gx_get (v := .ref (g.2.1 34)) (C := RX6) (T := TX6) (N := 13) hx hb hts mc_X6 hown hK hG (ga_28 g _) rfl 5 (by decide) hw0 rfl rfl dX6_countWalks_1 ?_
  refine lv_lconst (v := (0 : Int64)) hx hb dX6_countWalks_4 (by decide) ?_
  obtain ⟨z11, hc12, h⟩ := bnd_some h
  refine gx_cS (σ' := (mkS σ [] [] [] [(34, z11)])) (r := none) (rest := []) (As := [.ref (g.2.1 34), .long (0 : Int64)]) hS9 (c_JA_fillL_34 l g (mkS σ [] [] [] [(34, (σ.2.2.2 34))]) (0 : Int64) z11 hc12) (mk_mk rfl rfl rfl rfl) (va_cwS 2 hts (gz_S mw_4_1 mw_4_2 mw_1_8 mw_4_3) rfl rfl rfl hdS_J7_fill_d0a16 ⟨Nat.le_of_ble_eq_true rfl, Nat.le_of_ble_eq_true rfl⟩) hK hG rfl hl.1 rfl (Nat.le_of_ble_eq_true rfl) dX6_countWalks_5 (fun H locs hG => ?_)
  refine W.eq (g2 := F0 m 8 ls []) rfl ?_
  refine lv_aload_n hx hb dX6_countWalks_8 rfl (lv_at hl 0 rfl) ?_
  refine gx_get (v := .ref (g.2.1 34)) (C := RX6) (T := TX6) (N := 13) hx hb hts mc_X6 hown hK hG (ga_28 g _) rfl 5 (by decide) hw0 rfl rfl dX6_countWalks_9 ?_
  refine lv_iconst (v := (0 : Int32)) hx hb dX6_countWalks_12 (by decide) ?_
  refine lv_lconst (v := (1 : Int64)) hx hb dX6_countWalks_13 (by decide) ?_
  refine gx_last (σ' := (mkS σ [] [] [] [(34, (vp_updL z11 ((0 : Int32).toNatClampNeg) (1 : Int64)))])) (f := z11) hx hb hK hG (ga_34 g _) (by decide) ((gs_34 g _ _).trans (congrArg (g_cells g) (mk_d 0 rfl rfl))) dX6_countWalks_14 (fun H locs hG => ?_)
  refine lv_iconst (v := (0 : Int32)) hx hb dX6_countWalks_15 (by decide) ?_
  refine lv_istore_n (lv' := [(3, .int (0 : Int32)), (0, .ref (g.2.1 28)), (1, .int x1), (2, .int x2)]) hx hb dX6_countWalks_16 rfl hl (Nat.le_of_ble_eq_true rfl) rfl (fun ls hl => ?_)
  exact l17 FUEL x1 x2 (0 : Int32) (vp_updL z11 ((0 : Int32).toNatClampNeg) (1 : Int64)) _ _ _ (lv_sub hl [1, 2, 3, 0] rfl) hG h

set_option maxHeartbeats 4000000 in
set_option maxRecDepth 100000 in
theorem c_LN_walks (l : Launch) (g : GC) (σ : St) (x1 : Int32) (x2 : Int32) (r : Int64) (w_told_broken : Int32) (w_told_judged : Int32) (w_told_rootCount : Int32) (w_told_total : Int64) (w_told_roots : Nat → Int32) (w_told_times : Nat → Int32) (w_told_k : Nat → Int64) (w_told_scaled : Nat → Int64) (w_told_t : Nat → Int64) (w_told_walkRow : Nat → Int64) (h : LN_walks x1 x2 (σ.1 1802) (σ.1 1804) (σ.1 1800) (σ.1 1801) (σ.2.1 1803) (σ.2.2.1 29) (σ.2.2.1 30) (σ.2.2.1 35) (σ.2.2.1 36) (σ.2.2.2 31) (σ.2.2.2 33) (σ.2.2.2 32) (σ.2.2.2 34) = some (r, w_told_broken, w_told_judged, w_told_rootCount, w_told_total, w_told_roots, w_told_times, w_told_k, w_told_scaled, w_told_t, w_told_walkRow)) : Cn l g yX8_walks (Cond.code yX8_walks cX8_walks 3 (some .long) :: wG) 6 134 [.ref (g.2.1 0), .int x1, .int x2] σ (some (.long r)) (mkS σ [(1802, w_told_broken), (1804, w_told_judged), (1801, w_told_rootCount)] [(1803, w_told_total)] [(35, w_told_roots), (36, w_told_times)] [(31, w_told_k), (33, w_told_scaled), (32, w_told_t), (34, w_told_walkRow)]) := by
  unfold Cn
  refine Met.ofW (cc := cX8_walks) (maxL := 3) (ret := (some .long)) (by decide) rfl ?_
  intro p e s m args below meth c s₁ B hml hv
  obtain ⟨hargs, hP0, hK⟩ := hv
  have hx := B.exec
  have hb := B.bytes
  have hr := B.returns
  have hts : ∀ w ∈ wG, w.before args s = true := fun w h => atoms_spec (ws := (Cond.code yX8_walks cX8_walks 3 (some .long) :: wG)) B.pre w (List.mem_cons_of_mem _ h)
  have hown : s.vm.findClass RX8 = some m.cls := findClass_of_methodNamed B.named
  have hlocks := B.notSynchronized
  have hS9 : CallFix p m c cX8_walks 3 s args wG RX8 := ⟨hx, hb, hml, hown, hts⟩
  have hw0 := hts _ mw_3_236
  have hw1 := hts _ mw_2_46
  have hw2 := hts _ mw_4_4
  have hf9 : entryFrame m args 3 = _ := (congrArg (fun a => entryFrame m a 3) hargs).trans (lg_entry_eq m [.ref (g.2.1 0), .int x1, .int x2] 3)
  show Wg p l e 6 134 s m args below meth c g (some (.long r)) (mkS σ [(1802, w_told_broken), (1804, w_told_judged), (1801, w_told_rootCount)] [(1803, w_told_total)] [(35, w_told_roots), (36, w_told_times)] [(31, w_told_k), (33, w_told_scaled), (32, w_told_t), (34, w_told_walkRow)]) s.heap [] (entryFrame m args 3)
  rw [hf9]
  have hl := lv_entry ([.ref (g.2.1 0), .int x1, .int x2]) (n := 3) (Nat.le_of_ble_eq_true rfl)
  generalize (lg_sl ([.ref (g.2.1 0), .int x1, .int x2]) ++ List.replicate (3 - (lg_sl ([.ref (g.2.1 0), .int x1, .int x2])).length) Slot.unset).toArray = ls at hl ⊢
  have hl : lv_has ls 3 [(0, .ref (g.2.1 0)), (1, .int x1), (2, .int x2)] := hl
  have hG : GW g s σ s.heap [] := ⟨hP0, va_S.rf⟩
  have hG : GW g s (mkS σ [(1802, (σ.1 1802)), (1804, (σ.1 1804)), (1801, (σ.1 1801))] [(1803, (σ.2.1 1803))] [(35, (σ.2.2.1 35)), (36, (σ.2.2.1 36))] [(31, (σ.2.2.2 31)), (33, (σ.2.2.2 33)), (32, (σ.2.2.2 32)), (34, (σ.2.2.2 34))]) s.heap [] := GW_self [1802, 1804, 1801] [1803] [35, 36] [31, 33, 32, 34] hG
  unfold LN_walks at h
  have n21 : ∀ (v_told_broken : Int32) (v_told_judged : Int32) (v_told_rootCount : Int32) (v_told_total : Int64) (v_told_roots : Nat → Int32) (v_told_times : Nat → Int32) (v_told_k : Nat → Int64) (v_told_scaled : Nat → Int64) (v_told_t : Nat → Int64) (v_told_walkRow : Nat → Int64) (H : Heap) (locs : List Loc) (ls : Array Slot), lv_has ls 3 [] → GW g s (mkS σ [(1802, v_told_broken), (1804, v_told_judged), (1801, v_told_rootCount)] [(1803, v_told_total)] [(35, v_told_roots), (36, v_told_times)] [(31, v_told_k), (33, v_told_scaled), (32, v_told_t), (34, v_told_walkRow)]) H locs → LN_walks_n21 v_told_broken v_told_judged v_told_rootCount v_told_total v_told_roots v_told_times v_told_k v_told_scaled v_told_t v_told_walkRow = some (r, w_told_broken, w_told_judged, w_told_rootCount, w_told_total, w_told_roots, w_told_times, w_told_k, w_told_scaled, w_told_t, w_told_walkRow) → Wg p l e 6 134 s m args below meth c g (some (.long r)) (mkS σ [(1802, w_told_broken), (1804, w_told_judged), (1801, w_told_rootCount)] [(1803, w_told_total)] [(35, w_told_roots), (36, w_told_times)] [(31, w_told_k), (33, w_told_scaled), (32, w_told_t), (34, w_told_walkRow)]) H locs (F0 m 21 ls []) := by
    intro v_told_broken v_told_judged v_told_rootCount v_told_total v_told_roots v_told_times v_told_k v_told_scaled v_told_t v_told_walkRow H locs ls hl hG h
    unfold LN_walks_n21 at h
    refine lv_ldc2 hx hb hown hw0 dX8_walks_21 ?_
    cases h
    exact gx_lret hx hb hr hlocks hG dX8_walks_24
  have n51 : ∀ (t0 : Int64) (v_told_broken : Int32) (v_told_judged : Int32) (v_told_rootCount : Int32) (v_told_total : Int64) (v_told_roots : Nat → Int32) (v_told_times : Nat → Int32) (v_told_k : Nat → Int64) (v_told_scaled : Nat → Int64) (v_told_t : Nat → Int64) (v_told_walkRow : Nat → Int64) (H : Heap) (locs : List Loc) (ls : Array Slot), lv_has ls 3 [] → GW g s (mkS σ [(1802, v_told_broken), (1804, v_told_judged), (1801, v_told_rootCount)] [(1803, v_told_total)] [(35, v_told_roots), (36, v_told_times)] [(31, v_told_k), (33, v_told_scaled), (32, v_told_t), (34, v_told_walkRow)]) H locs → LN_walks_n51 t0 v_told_broken v_told_judged v_told_rootCount v_told_total v_told_roots v_told_times v_told_k v_told_scaled v_told_t v_told_walkRow = some (r, w_told_broken, w_told_judged, w_told_rootCount, w_told_total, w_told_roots, w_told_times, w_told_k, w_told_scaled, w_told_t, w_told_walkRow) → Wg p l e 6 134 s m args below meth c g (some (.long r)) (mkS σ [(1802, w_told_broken), (1804, w_told_judged), (1801, w_told_rootCount)] [(1803, w_told_total)] [(35, w_told_roots), (36, w_told_times)] [(31, w_told_k), (33, w_told_scaled), (32, w_told_t), (34, w_told_walkRow)]) H locs (F0 m 51 ls [.long t0]) := by
    intro t0 v_told_broken v_told_judged v_told_rootCount v_told_total v_told_roots v_told_times v_told_k v_told_scaled v_told_t v_told_walkRow H locs ls hl hG h
    unfold LN_walks_n51 at h
    cases h
    exact gx_lret hx hb hr hlocks hG dX8_walks_51
  refine lv_aload_n hx hb dX8_walks_0 rfl (lv_at hl 0 rfl) ?_
  refine gx_get (v := .ref (g.2.1 28)) (C := RX8) (T := TX8) (N := 13) hx hb hts mc_X8 hown hK hG (ga_0 g _) rfl 9 (by decide) hw1 rfl rfl dX8_walks_1 ?_
  refine lv_iload_n hx hb dX8_walks_4 rfl (lv_at hl 1 rfl) ?_
  obtain ⟨z1, hc2, h⟩ := bnd_some h
  refine gx_cV (σ' := (mkS σ [(1802, (σ.1 1802)), (1804, (σ.1 1804)), (1801, (σ.1 1801))] [(1803, (σ.2.1 1803))] [(35, (σ.2.2.1 35)), (36, (σ.2.2.1 36))] [(31, (σ.2.2.2 31)), (33, (σ.2.2.2 33)), (32, (σ.2.2.2 32)), (34, (σ.2.2.2 34))])) (r := (some (.int z1))) (rest := []) (As := [.int x1]) hS9 (c_Td_hasRow l g (mkS σ [(1802, (σ.1 1802)), (1804, (σ.1 1804)), (1801, (σ.1 1801))] [(1803, (σ.2.1 1803))] [(35, (σ.2.2.1 35)), (36, (σ.2.2.1 36))] [(31, (σ.2.2.2 31)), (33, (σ.2.2.2 33)), (32, (σ.2.2.2 32)), (34, (σ.2.2.2 34))]) x1 z1 hc2) rfl (cwV 1 hts (gz_V mw_3_209 mw_3_210 mw_3_211 mw_1_7 mw_3_212) rfl rfl rfl hdV_X6_hasRow ⟨Nat.le_of_ble_eq_true rfl, Nat.le_of_ble_eq_true rfl⟩) hK hG (ga_28 g _) rfl rfl rfl hl.1 rfl (Nat.le_of_ble_eq_true rfl) dX8_walks_5 (fun H locs hG => ?_)
  refine W.eq (g2 := F0 m 8 ls [.int z1]) rfl ?_
  refine lv_if_eq (tgt := 21) hx hb dX8_walks_8 (by decide) (fun c3 => ?_) (fun c3 => ?_)
  · have h := ite_t c3 h
    exact n21 (σ.1 1802) (σ.1 1804) (σ.1 1801) (σ.2.1 1803) (σ.2.2.1 35) (σ.2.2.1 36) (σ.2.2.2 31) (σ.2.2.2 33) (σ.2.2.2 32) (σ.2.2.2 34) _ _ _ (lv_sub hl [] rfl) hG h
  · have h := ite_f c3 h
    refine lv_iload_n hx hb dX8_walks_11 rfl (lv_at hl 2 rfl) ?_
    refine lv_if_lt (tgt := 21) hx hb dX8_walks_12 (by decide) (fun c4 => ?_) (fun c4 => ?_)
    · have h := ite_t c4 h
      exact n21 (σ.1 1802) (σ.1 1804) (σ.1 1801) (σ.2.1 1803) (σ.2.2.1 35) (σ.2.2.1 36) (σ.2.2.2 31) (σ.2.2.2 33) (σ.2.2.2 32) (σ.2.2.2 34) _ _ _ (lv_sub hl [] rfl) hG h
    · have h := ite_f c4 h
      refine lv_iload_n hx hb dX8_walks_15 rfl (lv_at hl 2 rfl) ?_
      refine lv_bipush (v := (8 : Int32)) hx hb dX8_walks_16 (by decide) ?_
      refine lv_icmp_le (tgt := 25) hx hb dX8_walks_18 (by decide) (fun c5 => ?_) (fun c5 => ?_)
      · have h := ite_t c5 h
        refine lv_aload_n hx hb dX8_walks_25 rfl (lv_at hl 0 rfl) ?_
        refine gx_get (v := .ref (g.2.1 28)) (C := RX8) (T := TX8) (N := 13) hx hb hts mc_X8 hown hK hG (ga_0 g _) rfl 9 (by decide) hw1 rfl rfl dX8_walks_26 ?_
        refine lv_iconst (v := (4 : Int32)) hx hb dX8_walks_29 (by decide) ?_
        obtain ⟨z6, hc7, h⟩ := bnd_some h
        refine gx_cV (σ' := (mkS σ [(1802, z6.2.1), (1804, z6.2.2.1), (1801, z6.2.2.2.1)] [(1803, z6.2.2.2.2.1)] [(35, z6.2.2.2.2.2.1), (36, z6.2.2.2.2.2.2.1)] [(31, z6.2.2.2.2.2.2.2.1), (33, z6.2.2.2.2.2.2.2.2.1), (32, z6.2.2.2.2.2.2.2.2.2), (34, (σ.2.2.2 34))])) (r := (some (.int z6.1))) (rest := []) (As := [.int (4 : Int32)]) hS9 (c_Td_keepsLawsTo l g (mkS σ [(1802, (σ.1 1802)), (1804, (σ.1 1804)), (1801, (σ.1 1801))] [(1803, (σ.2.1 1803))] [(35, (σ.2.2.1 35)), (36, (σ.2.2.1 36))] [(31, (σ.2.2.2 31)), (33, (σ.2.2.2 33)), (32, (σ.2.2.2 32)), (34, (σ.2.2.2 34))]) (4 : Int32) z6.1 z6.2.1 z6.2.2.1 z6.2.2.2.1 z6.2.2.2.2.1 z6.2.2.2.2.2.1 z6.2.2.2.2.2.2.1 z6.2.2.2.2.2.2.2.1 z6.2.2.2.2.2.2.2.2.1 z6.2.2.2.2.2.2.2.2.2 hc7) (mk_mk rfl rfl rfl rfl) (cwV 1 hts (gz_V mw_3_213 mw_3_214 mw_3_215 mw_1_7 mw_3_216) rfl rfl rfl hdV_X6_keepsLawsTo ⟨Nat.le_of_ble_eq_true rfl, Nat.le_of_ble_eq_true rfl⟩) hK hG (ga_28 g _) rfl rfl rfl hl.1 rfl (Nat.le_of_ble_eq_true rfl) dX8_walks_30 (fun H locs hG => ?_)
        refine W.eq (g2 := F0 m 33 ls [.int z6.1]) rfl ?_
        refine lv_if_eq (tgt := 48) hx hb dX8_walks_33 (by decide) (fun c8 => ?_) (fun c8 => ?_)
        · have h := ite_t c8 h
          refine lv_ldc2 hx hb hown hw2 dX8_walks_48 ?_
          exact n51 (-6 : Int64) z6.2.1 z6.2.2.1 z6.2.2.2.1 z6.2.2.2.2.1 z6.2.2.2.2.2.1 z6.2.2.2.2.2.2.1 z6.2.2.2.2.2.2.2.1 z6.2.2.2.2.2.2.2.2.1 z6.2.2.2.2.2.2.2.2.2 (σ.2.2.2 34) _ _ _ (lv_sub hl [] rfl) hG h
        · have h := ite_f c8 h
          refine lv_aload_n hx hb dX8_walks_36 rfl (lv_at hl 0 rfl) ?_
          refine gx_get (v := .ref (g.2.1 28)) (C := RX8) (T := TX8) (N := 13) hx hb hts mc_X8 hown hK hG (ga_0 g _) rfl 9 (by decide) hw1 rfl rfl dX8_walks_37 ?_
          refine lv_iload_n hx hb dX8_walks_40 rfl (lv_at hl 1 rfl) ?_
          refine lv_iload_n hx hb dX8_walks_41 rfl (lv_at hl 2 rfl) ?_
          obtain ⟨z9, hc10, h⟩ := bnd_some h
          refine gx_cV (σ' := (mkS σ [(1802, z6.2.1), (1804, z6.2.2.1), (1801, z6.2.2.2.1)] [(1803, z6.2.2.2.2.1)] [(35, z6.2.2.2.2.2.1), (36, z6.2.2.2.2.2.2.1)] [(31, z6.2.2.2.2.2.2.2.1), (33, z6.2.2.2.2.2.2.2.2.1), (32, z6.2.2.2.2.2.2.2.2.2), (34, z9.2)])) (r := (some (.long z9.1))) (rest := []) (As := [.int x1, .int x2]) hS9 (c_Td_countWalks l g (mkS σ [(1802, z6.2.1), (1804, z6.2.2.1), (1801, z6.2.2.2.1)] [(1803, z6.2.2.2.2.1)] [(35, z6.2.2.2.2.2.1), (36, z6.2.2.2.2.2.2.1)] [(31, z6.2.2.2.2.2.2.2.1), (33, z6.2.2.2.2.2.2.2.2.1), (32, z6.2.2.2.2.2.2.2.2.2), (34, (σ.2.2.2 34))]) x1 x2 z9.1 z9.2 hc10) (mk_mk rfl rfl rfl rfl) (cwV 2 hts (gz_V mw_3_237 mw_3_238 mw_3_239 mw_1_7 mw_4_0) rfl rfl rfl hdV_X6_countWalks ⟨Nat.le_of_ble_eq_true rfl, Nat.le_of_ble_eq_true rfl⟩) hK hG (ga_28 g _) rfl rfl rfl hl.1 rfl (Nat.le_of_ble_eq_true rfl) dX8_walks_42 (fun H locs hG => ?_)
          refine W.eq (g2 := F0 m 45 ls [.long z9.1]) rfl ?_
          refine lv_goto (tgt := 51) hx hb dX8_walks_45 (by decide) ?_
          exact n51 z9.1 z6.2.1 z6.2.2.1 z6.2.2.2.1 z6.2.2.2.2.1 z6.2.2.2.2.2.1 z6.2.2.2.2.2.2.1 z6.2.2.2.2.2.2.2.1 z6.2.2.2.2.2.2.2.2.1 z6.2.2.2.2.2.2.2.2.2 z9.2 _ _ _ (lv_sub hl [] rfl) hG h
      · have h := ite_f c5 h
        exact n21 (σ.1 1802) (σ.1 1804) (σ.1 1801) (σ.2.1 1803) (σ.2.2.1 35) (σ.2.2.1 36) (σ.2.2.2 31) (σ.2.2.2 33) (σ.2.2.2 32) (σ.2.2.2 34) _ _ _ (lv_sub hl [] rfl) hG h

set_option maxHeartbeats 4000000 in
set_option maxRecDepth 100000 in
theorem c_LN_way (l : Launch) (g : GC) (σ : St) (x1 : Int32) (x2 : Int32) (r : Int32) (w_ways_far : Int32) (w_ways_ready : Int32) (w_ways_size : Int32) (w_ways_whole : Int32) (w_ways_layers : Nat → Int32) (w_ways_reached : Nat → Int32) (w_ways_steps : Nat → Int32) (h : LN_way x1 x2 (σ.1 641) (σ.1 1286) (σ.1 1283) (σ.1 1285) (σ.1 1284) (σ.2.2.1 11) (σ.2.2.1 22) (σ.2.2.1 23) (σ.2.2.1 21) = some (r, w_ways_far, w_ways_ready, w_ways_size, w_ways_whole, w_ways_layers, w_ways_reached, w_ways_steps)) : Cn l g yX8_way (Cond.code yX8_way cX8_way 4 (some .int) :: wG) 5 114 [.ref (g.2.1 0), .int x1, .int x2] σ (some (.int r)) (mkS σ [(1286, w_ways_far), (1283, w_ways_ready), (1285, w_ways_size), (1284, w_ways_whole)] [] [(22, w_ways_layers), (23, w_ways_reached), (21, w_ways_steps)] []) := by
  unfold Cn
  refine Met.ofW (cc := cX8_way) (maxL := 4) (ret := (some .int)) (by decide) rfl ?_
  intro p e s m args below meth c s₁ B hml hv
  obtain ⟨hargs, hP0, hK⟩ := hv
  have hx := B.exec
  have hb := B.bytes
  have hr := B.returns
  have hts : ∀ w ∈ wG, w.before args s = true := fun w h => atoms_spec (ws := (Cond.code yX8_way cX8_way 4 (some .int) :: wG)) B.pre w (List.mem_cons_of_mem _ h)
  have hown : s.vm.findClass RX8 = some m.cls := findClass_of_methodNamed B.named
  have hlocks := B.notSynchronized
  have hS9 : CallFix p m c cX8_way 4 s args wG RX8 := ⟨hx, hb, hml, hown, hts⟩
  have hw0 := hts _ mw_2_38
  have hw1 := hts _ mw_2_44
  have hf9 : entryFrame m args 4 = _ := (congrArg (fun a => entryFrame m a 4) hargs).trans (lg_entry_eq m [.ref (g.2.1 0), .int x1, .int x2] 4)
  show Wg p l e 5 114 s m args below meth c g (some (.int r)) (mkS σ [(1286, w_ways_far), (1283, w_ways_ready), (1285, w_ways_size), (1284, w_ways_whole)] [] [(22, w_ways_layers), (23, w_ways_reached), (21, w_ways_steps)] []) s.heap [] (entryFrame m args 4)
  rw [hf9]
  have hl := lv_entry ([.ref (g.2.1 0), .int x1, .int x2]) (n := 4) (Nat.le_of_ble_eq_true rfl)
  generalize (lg_sl ([.ref (g.2.1 0), .int x1, .int x2]) ++ List.replicate (4 - (lg_sl ([.ref (g.2.1 0), .int x1, .int x2])).length) Slot.unset).toArray = ls at hl ⊢
  have hl : lv_has ls 4 [(0, .ref (g.2.1 0)), (1, .int x1), (2, .int x2)] := hl
  have hG : GW g s σ s.heap [] := ⟨hP0, va_S.rf⟩
  have hG : GW g s (mkS σ [(1286, (σ.1 1286)), (1283, (σ.1 1283)), (1285, (σ.1 1285)), (1284, (σ.1 1284))] [] [(22, (σ.2.2.1 22)), (23, (σ.2.2.1 23)), (21, (σ.2.2.1 21))] []) s.heap [] := GW_self [1286, 1283, 1285, 1284] [] [22, 23, 21] [] hG
  unfold LN_way at h
  have n22 : ∀ (v_ways_far : Int32) (v_ways_ready : Int32) (v_ways_size : Int32) (v_ways_whole : Int32) (v_ways_layers : Nat → Int32) (v_ways_reached : Nat → Int32) (v_ways_steps : Nat → Int32) (H : Heap) (locs : List Loc) (ls : Array Slot), lv_has ls 4 [] → GW g s (mkS σ [(1286, v_ways_far), (1283, v_ways_ready), (1285, v_ways_size), (1284, v_ways_whole)] [] [(22, v_ways_layers), (23, v_ways_reached), (21, v_ways_steps)] []) H locs → LN_way_n22 v_ways_far v_ways_ready v_ways_size v_ways_whole v_ways_layers v_ways_reached v_ways_steps = some (r, w_ways_far, w_ways_ready, w_ways_size, w_ways_whole, w_ways_layers, w_ways_reached, w_ways_steps) → Wg p l e 5 114 s m args below meth c g (some (.int r)) (mkS σ [(1286, w_ways_far), (1283, w_ways_ready), (1285, w_ways_size), (1284, w_ways_whole)] [] [(22, w_ways_layers), (23, w_ways_reached), (21, w_ways_steps)] []) H locs (F0 m 22 ls []) := by
    intro v_ways_far v_ways_ready v_ways_size v_ways_whole v_ways_layers v_ways_reached v_ways_steps H locs ls hl hG h
    unfold LN_way_n22 at h
    refine lv_iconst (v := (-1 : Int32)) hx hb dX8_way_22 (by decide) ?_
    cases h
    exact gx_iret hx hb hr hlocks hG dX8_way_23
  have n48 : ∀ (t0 : Int32) (v_ways_far : Int32) (v_ways_ready : Int32) (v_ways_size : Int32) (v_ways_whole : Int32) (v_ways_layers : Nat → Int32) (v_ways_reached : Nat → Int32) (v_ways_steps : Nat → Int32) (H : Heap) (locs : List Loc) (ls : Array Slot), lv_has ls 4 [] → GW g s (mkS σ [(1286, v_ways_far), (1283, v_ways_ready), (1285, v_ways_size), (1284, v_ways_whole)] [] [(22, v_ways_layers), (23, v_ways_reached), (21, v_ways_steps)] []) H locs → LN_way_n48 t0 v_ways_far v_ways_ready v_ways_size v_ways_whole v_ways_layers v_ways_reached v_ways_steps = some (r, w_ways_far, w_ways_ready, w_ways_size, w_ways_whole, w_ways_layers, w_ways_reached, w_ways_steps) → Wg p l e 5 114 s m args below meth c g (some (.int r)) (mkS σ [(1286, w_ways_far), (1283, w_ways_ready), (1285, w_ways_size), (1284, w_ways_whole)] [] [(22, w_ways_layers), (23, w_ways_reached), (21, w_ways_steps)] []) H locs (F0 m 48 ls [.int t0]) := by
    intro t0 v_ways_far v_ways_ready v_ways_size v_ways_whole v_ways_layers v_ways_reached v_ways_steps H locs ls hl hG h
    unfold LN_way_n48 at h
    cases h
    exact gx_iret hx hb hr hlocks hG dX8_way_48
  refine lv_aload_n hx hb dX8_way_0 rfl (lv_at hl 0 rfl) ?_
  refine gx_get (v := .ref (g.2.1 10)) (C := RX8) (T := TX8) (N := 13) hx hb hts mc_X8 hown hK hG (ga_0 g _) rfl 1 (by decide) hw0 rfl rfl dX8_way_1 ?_
  refine lv_iload_n hx hb dX8_way_4 rfl (lv_at hl 1 rfl) ?_
  obtain ⟨z1, hc2, h⟩ := bnd_some h
  refine gx_cV (σ' := (mkS σ [(1286, (σ.1 1286)), (1283, (σ.1 1283)), (1285, (σ.1 1285)), (1284, (σ.1 1284))] [] [(22, (σ.2.2.1 22)), (23, (σ.2.2.1 23)), (21, (σ.2.2.1 21))] [])) (r := (some (.int z1))) (rest := []) (As := [.int x1]) hS9 (c_Net_has_10 l g (mkS σ [(1286, (σ.1 1286)), (1283, (σ.1 1283)), (1285, (σ.1 1285)), (1284, (σ.1 1284))] [] [(22, (σ.2.2.1 22)), (23, (σ.2.2.1 23)), (21, (σ.2.2.1 21))] []) x1 z1 hc2) rfl (cwV 1 hts (gz_V mw_3_4 mw_2_127 mw_2_128 mw_1_3 mw_2_129) rfl rfl rfl hdV_X2_has ⟨Nat.le_of_ble_eq_true rfl, Nat.le_of_ble_eq_true rfl⟩) hK hG (ga_10 g _) rfl rfl rfl hl.1 rfl (Nat.le_of_ble_eq_true rfl) dX8_way_5 (fun H locs hG => ?_)
  refine W.eq (g2 := F0 m 8 ls [.int z1]) rfl ?_
  refine lv_if_eq (tgt := 22) hx hb dX8_way_8 (by decide) (fun c3 => ?_) (fun c3 => ?_)
  · have h := ite_t c3 h
    exact n22 (σ.1 1286) (σ.1 1283) (σ.1 1285) (σ.1 1284) (σ.2.2.1 22) (σ.2.2.1 23) (σ.2.2.1 21) _ _ _ (lv_sub hl [] rfl) hG h
  · have h := ite_f c3 h
    refine lv_aload_n hx hb dX8_way_11 rfl (lv_at hl 0 rfl) ?_
    refine gx_get (v := .ref (g.2.1 10)) (C := RX8) (T := TX8) (N := 13) hx hb hts mc_X8 hown hK hG (ga_0 g _) rfl 1 (by decide) hw0 rfl rfl dX8_way_12 ?_
    refine lv_iload_n hx hb dX8_way_15 rfl (lv_at hl 2 rfl) ?_
    obtain ⟨z4, hc5, h⟩ := bnd_some h
    refine gx_cV (σ' := (mkS σ [(1286, (σ.1 1286)), (1283, (σ.1 1283)), (1285, (σ.1 1285)), (1284, (σ.1 1284))] [] [(22, (σ.2.2.1 22)), (23, (σ.2.2.1 23)), (21, (σ.2.2.1 21))] [])) (r := (some (.int z4))) (rest := []) (As := [.int x2]) hS9 (c_Net_has_10 l g (mkS σ [(1286, (σ.1 1286)), (1283, (σ.1 1283)), (1285, (σ.1 1285)), (1284, (σ.1 1284))] [] [(22, (σ.2.2.1 22)), (23, (σ.2.2.1 23)), (21, (σ.2.2.1 21))] []) x2 z4 hc5) rfl (cwV 1 hts (gz_V mw_3_4 mw_2_127 mw_2_128 mw_1_3 mw_2_129) rfl rfl rfl hdV_X2_has ⟨Nat.le_of_ble_eq_true rfl, Nat.le_of_ble_eq_true rfl⟩) hK hG (ga_10 g _) rfl rfl rfl hl.1 rfl (Nat.le_of_ble_eq_true rfl) dX8_way_16 (fun H locs hG => ?_)
    refine W.eq (g2 := F0 m 19 ls [.int z4]) rfl ?_
    refine lv_if_ne (tgt := 24) hx hb dX8_way_19 (by decide) (fun c6 => ?_) (fun c6 => ?_)
    · have h := ite_f c6 h
      refine lv_aload_n hx hb dX8_way_24 rfl (lv_at hl 0 rfl) ?_
      obtain ⟨z7, hc8, h⟩ := bnd_some h
      refine gx_cV (σ' := (mkS σ [(1286, z7.1), (1283, z7.2.1), (1285, z7.2.2.1), (1284, z7.2.2.2.1)] [] [(22, z7.2.2.2.2.1), (23, z7.2.2.2.2.2.1), (21, z7.2.2.2.2.2.2)] [])) (r := none) (rest := []) (As := []) hS9 (c_LN_measure l g (mkS σ [(1286, (σ.1 1286)), (1283, (σ.1 1283)), (1285, (σ.1 1285)), (1284, (σ.1 1284))] [] [(22, (σ.2.2.1 22)), (23, (σ.2.2.1 23)), (21, (σ.2.2.1 21))] []) z7.1 z7.2.1 z7.2.2.1 z7.2.2.2.1 z7.2.2.2.2.1 z7.2.2.2.2.2.1 z7.2.2.2.2.2.2 hc8) (mk_mk rfl rfl rfl rfl) (cwV 0 hts (gz_V mw_3_5 mw_3_7 ms_1_6 mw_1_1 mw_3_8) rfl rfl rfl hdV_X8_measure ⟨Nat.le_of_ble_eq_true rfl, Nat.le_of_ble_eq_true rfl⟩) hK hG (ga_0 g _) rfl rfl rfl hl.1 rfl (Nat.le_of_ble_eq_true rfl) dX8_way_25 (fun H locs hG => ?_)
      refine W.eq (g2 := F0 m 28 ls []) rfl ?_
      refine lv_aload_n hx hb dX8_way_28 rfl (lv_at hl 0 rfl) ?_
      refine gx_get (v := .ref (g.2.1 20)) (C := RX8) (T := TX8) (N := 13) hx hb hts mc_X8 hown hK hG (ga_0 g _) rfl 7 (by decide) hw1 rfl rfl dX8_way_29 ?_
      refine lv_iload_n hx hb dX8_way_32 rfl (lv_at hl 1 rfl) ?_
      refine lv_iload_n hx hb dX8_way_33 rfl (lv_at hl 2 rfl) ?_
      obtain ⟨z9, hc10, h⟩ := bnd_some h
      refine gx_cV (σ' := (mkS σ [(1286, z7.1), (1283, z7.2.1), (1285, z7.2.2.1), (1284, z7.2.2.2.1)] [] [(22, z7.2.2.2.2.1), (23, z7.2.2.2.2.2.1), (21, z7.2.2.2.2.2.2)] [])) (r := (some (.int z9))) (rest := []) (As := [.int x1, .int x2]) hS9 (c_Wy_between l g (mkS σ [(1286, z7.1), (1283, z7.2.1), (1285, z7.2.2.1), (1284, z7.2.2.2.1)] [] [(22, z7.2.2.2.2.1), (23, z7.2.2.2.2.2.1), (21, z7.2.2.2.2.2.2)] []) x1 x2 z9 hc10) rfl (cwV 2 hts (gz_V mw_3_33 mw_3_34 mw_3_35 mw_1_5 mw_3_36) rfl rfl rfl hdV_X7_between ⟨Nat.le_of_ble_eq_true rfl, Nat.le_of_ble_eq_true rfl⟩) hK hG (ga_20 g _) rfl rfl rfl hl.1 rfl (Nat.le_of_ble_eq_true rfl) dX8_way_34 (fun H locs hG => ?_)
      refine W.eq (g2 := F0 m 37 ls [.int z9]) rfl ?_
      refine lv_istore_n (lv' := [(3, .int z9), (0, .ref (g.2.1 0)), (1, .int x1), (2, .int x2)]) hx hb dX8_way_37 rfl hl (Nat.le_of_ble_eq_true rfl) rfl (fun ls hl => ?_)
      refine lv_iload_n hx hb dX8_way_38 rfl (lv_at hl 0 rfl) ?_
      refine lv_if_ge (tgt := 47) hx hb dX8_way_39 (by decide) (fun c11 => ?_) (fun c11 => ?_)
      · have h := ite_t c11 h
        refine lv_iload_n hx hb dX8_way_47 rfl (lv_at hl 0 rfl) ?_
        exact n48 z9 z7.1 z7.2.1 z7.2.2.1 z7.2.2.2.1 z7.2.2.2.2.1 z7.2.2.2.2.2.1 z7.2.2.2.2.2.2 _ _ _ (lv_sub hl [] rfl) hG h
      · have h := ite_f c11 h
        refine lv_bipush (v := (-8 : Int32)) hx hb dX8_way_42 (by decide) ?_
        refine lv_goto (tgt := 48) hx hb dX8_way_44 (by decide) ?_
        exact n48 (-8 : Int32) z7.1 z7.2.1 z7.2.2.1 z7.2.2.2.1 z7.2.2.2.2.1 z7.2.2.2.2.2.1 z7.2.2.2.2.2.2 _ _ _ (lv_sub hl [] rfl) hG h
    · have h := ite_t c6 h
      exact n22 (σ.1 1286) (σ.1 1283) (σ.1 1285) (σ.1 1284) (σ.2.2.1 22) (σ.2.2.1 23) (σ.2.2.1 21) _ _ _ (lv_sub hl [] rfl) hG h

set_option maxHeartbeats 4000000 in
set_option maxRecDepth 100000 in
theorem c_M_become (l : Launch) (g : GC) (σ : St) (x1 : Int32) (w_areKindsFound : Int32) (w_isMeasured : Int32) (w_posts : Int32) (w_road : Nat → Int32) (h : M_become x1 (σ.1 3238) (σ.1 3212) (σ.1 3203) (σ.2.2.1 70) (σ.2.2.1 54) = some (w_areKindsFound, w_isMeasured, w_posts, w_road)) : Cn l g yX9_become (Cond.code yX9_become cX9_become 3 none :: wG) 0 0 [.ref (g.2.1 50), .int x1] σ none (mkS σ [(3238, w_areKindsFound), (3212, w_isMeasured), (3203, w_posts)] [] [(54, w_road)] []) := by
  unfold Cn
  refine Met.ofW (cc := cX9_become) (maxL := 3) (ret := none) (by decide) rfl ?_
  intro p e s m args below meth c s₁ B hml hv
  obtain ⟨hargs, hP0, hK⟩ := hv
  have hx := B.exec
  have hb := B.bytes
  have hr := B.returns
  have hts : ∀ w ∈ wG, w.before args s = true := fun w h => atoms_spec (ws := (Cond.code yX9_become cX9_become 3 none :: wG)) B.pre w (List.mem_cons_of_mem _ h)
  have hown : s.vm.findClass RX9 = some m.cls := findClass_of_methodNamed B.named
  have hlocks := B.notSynchronized
  have hw0 := hts _ mw_4_151
  have hw1 := hts _ mw_4_177
  have hw2 := hts _ mw_4_143
  have hw3 := hts _ mw_4_168
  have hw4 := hts _ mw_4_142
  have hf9 : entryFrame m args 3 = _ := (congrArg (fun a => entryFrame m a 3) hargs).trans (lg_entry_eq m [.ref (g.2.1 50), .int x1] 3)
  show Wg p l e 0 0 s m args below meth c g none (mkS σ [(3238, w_areKindsFound), (3212, w_isMeasured), (3203, w_posts)] [] [(54, w_road)] []) s.heap [] (entryFrame m args 3)
  rw [hf9]
  have hl := lv_entry ([.ref (g.2.1 50), .int x1]) (n := 3) (Nat.le_of_ble_eq_true rfl)
  generalize (lg_sl ([.ref (g.2.1 50), .int x1]) ++ List.replicate (3 - (lg_sl ([.ref (g.2.1 50), .int x1])).length) Slot.unset).toArray = ls at hl ⊢
  have hl : lv_has ls 3 [(0, .ref (g.2.1 50)), (1, .int x1)] := hl
  have hG : GW g s σ s.heap [] := ⟨hP0, va_S.rf⟩
  have hG : GW g s (mkS σ [(3238, (σ.1 3238)), (3212, (σ.1 3212)), (3203, (σ.1 3203))] [] [(54, (σ.2.2.1 54))] []) s.heap [] := GW_self [3238, 3212, 3203] [] [54] [] hG
  unfold M_become at h
  have n32 : ∀ (v_areKindsFound : Int32) (v_isMeasured : Int32) (v_posts : Int32) (v_road : Nat → Int32) (H : Heap) (locs : List Loc) (ls : Array Slot), lv_has ls 3 [(0, .ref (g.2.1 50))] → GW g s (mkS σ [(3238, v_areKindsFound), (3212, v_isMeasured), (3203, v_posts)] [] [(54, v_road)] []) H locs → M_become_n32 v_areKindsFound v_isMeasured v_posts v_road = some (w_areKindsFound, w_isMeasured, w_posts, w_road) → Wg p l e 0 0 s m args below meth c g none (mkS σ [(3238, w_areKindsFound), (3212, w_isMeasured), (3203, w_posts)] [] [(54, w_road)] []) H locs (F0 m 32 ls []) := by
    intro v_areKindsFound v_isMeasured v_posts v_road H locs ls hl hG h
    unfold M_become_n32 at h
    refine lv_aload_n hx hb dX9_become_32 rfl (lv_at hl 0 rfl) ?_
    refine lv_iconst (v := (0 : Int32)) hx hb dX9_become_33 (by decide) ?_
    refine gx_put (σ' := (mkS σ [(3238, v_areKindsFound), (3212, (0 : Int32)), (3203, v_posts)] [] [(54, v_road)] [])) (C := RX9) (T := TX9) (N := 44) hx hb hts mc_X9 tyX9 tyX9_ok nmX9 hown hK hG (ga_50 g _) rfl 12 (by decide) hw0 rfl rfl (isb_n (by decide)) (isb_f (by decide)) (Nat.le_of_ble_eq_true rfl) ((gf_3212 g _ _).trans (congrArg (g_cells g) (mk_a 1 rfl rfl))) dX9_become_34 (fun H locs hG => ?_)
    refine lv_aload_n hx hb dX9_become_37 rfl (lv_at hl 0 rfl) ?_
    refine lv_iconst (v := (0 : Int32)) hx hb dX9_become_38 (by decide) ?_
    refine gx_put (σ' := (mkS σ [(3238, (0 : Int32)), (3212, (0 : Int32)), (3203, v_posts)] [] [(54, v_road)] [])) (C := RX9) (T := TX9) (N := 44) hx hb hts mc_X9 tyX9 tyX9_ok nmX9 hown hK hG (ga_50 g _) rfl 38 (by decide) hw1 rfl rfl (isb_n (by decide)) (isb_f (by decide)) (Nat.le_of_ble_eq_true rfl) ((gf_3238 g _ _).trans (congrArg (g_cells g) (mk_a 0 rfl rfl))) dX9_become_39 (fun H locs hG => ?_)
    cases h
    exact gx_vret hx hb hr hlocks hG dX9_become_42
  have n7 : ∀ (k7 : Int32 → Int32 → Int32 → Int32 → (Nat → Int32) → Option (Int32 × Int32 × Int32 × (Nat → Int32))) (hk7 : ∀ (x2 : Int32) (v_areKindsFound : Int32) (v_isMeasured : Int32) (v_posts : Int32) (v_road : Nat → Int32) (H : Heap) (locs : List Loc) (ls : Array Slot), lv_has ls 3 [(0, .ref (g.2.1 50)), (2, .int x2)] → GW g s (mkS σ [(3238, v_areKindsFound), (3212, v_isMeasured), (3203, v_posts)] [] [(54, v_road)] []) H locs → k7 x2 v_areKindsFound v_isMeasured v_posts v_road = some (w_areKindsFound, w_isMeasured, w_posts, w_road) → Wg p l e 0 0 s m args below meth c g none (mkS σ [(3238, w_areKindsFound), (3212, w_isMeasured), (3203, w_posts)] [] [(54, w_road)] []) H locs (F0 m 7 ls [])) (x2 : Int32) (v_areKindsFound : Int32) (v_isMeasured : Int32) (v_posts : Int32) (v_road : Nat → Int32) (H : Heap) (locs : List Loc) (ls : Array Slot), lv_has ls 3 [(0, .ref (g.2.1 50)), (2, .int x2)] → GW g s (mkS σ [(3238, v_areKindsFound), (3212, v_isMeasured), (3203, v_posts)] [] [(54, v_road)] []) H locs → M_become_n7 k7 (σ.2.2.1 70) x2 v_areKindsFound v_isMeasured v_posts v_road = some (w_areKindsFound, w_isMeasured, w_posts, w_road) → Wg p l e 0 0 s m args below meth c g none (mkS σ [(3238, w_areKindsFound), (3212, w_isMeasured), (3203, w_posts)] [] [(54, w_road)] []) H locs (F0 m 7 ls []) := by
    intro k7 hk7 x2 v_areKindsFound v_isMeasured v_posts v_road H locs ls hl hG h
    unfold M_become_n7 at h
    refine lv_iload_n hx hb dX9_become_7 rfl (lv_at hl 1 rfl) ?_
    refine lv_sipush (v := (1024 : Int32)) hx hb dX9_become_8 (by decide) ?_
    refine lv_icmp_ge (tgt := 32) hx hb dX9_become_11 (by decide) (fun c1 => ?_) (fun c1 => ?_)
    · have h := ite_t c1 h
      exact n32 v_areKindsFound v_isMeasured v_posts v_road _ _ _ (lv_sub hl [0] rfl) hG h
    · have h := ite_f c1 h
      refine lv_aload_n hx hb dX9_become_14 rfl (lv_at hl 0 rfl) ?_
      refine gx_get (v := .ref (g.2.1 54)) (C := RX9) (T := TX9) (N := 44) hx hb hts mc_X9 hown hK hG (ga_50 g _) rfl 4 (by decide) hw2 rfl rfl dX9_become_15 ?_
      refine lv_iload_n hx hb dX9_become_18 rfl (lv_at hl 1 rfl) ?_
      refine lv_aload_n hx hb dX9_become_19 rfl (lv_at hl 0 rfl) ?_
      refine gx_get (v := .ref (g.2.1 70)) (C := RX9) (T := TX9) (N := 44) hx hb hts mc_X9 hown hK hG (ga_50 g _) rfl 29 (by decide) hw3 rfl rfl dX9_become_20 ?_
      refine lv_iload_n hx hb dX9_become_23 rfl (lv_at hl 1 rfl) ?_
      obtain ⟨hg2, h⟩ := gd_some h
      refine gx_zald (f := (σ.2.2.1 70)) hx hb hK hG (ga_70 g _) hg2 dX9_become_24 ?_
      obtain ⟨hg3, h⟩ := gd_some h
      refine gx_zast (σ' := (mkS σ [(3238, v_areKindsFound), (3212, v_isMeasured), (3203, v_posts)] [] [(54, (upd v_road (x2.toNatClampNeg) ((σ.2.2.1 70) (x2.toNatClampNeg))))] [])) (f := v_road) hx hb hK hG (ga_54 g _) hg2 hg3 ((gs_54 g _ _).trans (congrArg (g_cells g) (mk_c 0 rfl rfl))) dX9_become_25 (fun H locs hG => ?_)
      refine lv_iinc (v := (x2 + (1 : Int32))) (lv' := [(2, .int (x2 + (1 : Int32))), (0, .ref (g.2.1 50))]) hx hb dX9_become_26 hl (k := 1) rfl (congrArg (fun z => x2 + z) (by decide)) (Nat.le_of_ble_eq_true rfl) rfl (fun ls hl => ?_)
      refine lv_goto (tgt := 7) hx hb dX9_become_29 (by decide) ?_
      exact hk7 (x2 + (1 : Int32)) v_areKindsFound v_isMeasured v_posts (upd v_road (x2.toNatClampNeg) ((σ.2.2.1 70) (x2.toNatClampNeg))) _ _ _ (lv_sub hl [1, 0] rfl) hG h
  have l7 : ∀  (F : Nat) (x2 : Int32) (v_areKindsFound : Int32) (v_isMeasured : Int32) (v_posts : Int32) (v_road : Nat → Int32) (H : Heap) (locs : List Loc) (ls : Array Slot), lv_has ls 3 [(0, .ref (g.2.1 50)), (2, .int x2)] → GW g s (mkS σ [(3238, v_areKindsFound), (3212, v_isMeasured), (3203, v_posts)] [] [(54, v_road)] []) H locs → M_become_l7 (σ.2.2.1 70) F x2 v_areKindsFound v_isMeasured v_posts v_road = some (w_areKindsFound, w_isMeasured, w_posts, w_road) → Wg p l e 0 0 s m args below meth c g none (mkS σ [(3238, w_areKindsFound), (3212, w_isMeasured), (3203, w_posts)] [] [(54, w_road)] []) H locs (F0 m 7 ls []) := by
    intro F
    induction F with
    | zero => intro x2 v_areKindsFound v_isMeasured v_posts v_road H locs ls hl hG h; exact no_some h
    | succ F ih => intro x2 v_areKindsFound v_isMeasured v_posts v_road H locs ls hl hG h; exact n7 (fun x2 v_areKindsFound v_isMeasured v_posts v_road => M_become_l7 (σ.2.2.1 70) F x2 v_areKindsFound v_isMeasured v_posts v_road) ih x2 v_areKindsFound v_isMeasured v_posts v_road H locs ls hl hG h
  refine lv_aload_n hx hb dX9_become_0 rfl (lv_at hl 0 rfl) ?_
  refine lv_iload_n hx hb dX9_become_1 rfl (lv_at hl 1 rfl) ?_
  refine gx_put (σ' := (mkS σ [(3238, (σ.1 3238)), (3212, (σ.1 3212)), (3203, x1)] [] [(54, (σ.2.2.1 54))] [])) (C := RX9) (T := TX9) (N := 44) hx hb hts mc_X9 tyX9 tyX9_ok nmX9 hown hK hG (ga_50 g _) rfl 3 (by decide) hw4 rfl rfl rfl rfl (Nat.le_of_ble_eq_true rfl) ((gf_3203 g _ _).trans (congrArg (g_cells g) (mk_a 2 rfl rfl))) dX9_become_2 (fun H locs hG => ?_)
  refine lv_iconst (v := (0 : Int32)) hx hb dX9_become_5 (by decide) ?_
  refine lv_istore_n (lv' := [(2, .int (0 : Int32)), (0, .ref (g.2.1 50)), (1, .int x1)]) hx hb dX9_become_6 rfl hl (Nat.le_of_ble_eq_true rfl) rfl (fun ls hl => ?_)
  exact l7 FUEL (0 : Int32) (σ.1 3238) (σ.1 3212) x1 (σ.2.2.1 54) _ _ _ (lv_sub hl [1, 0] rfl) hG h

set_option maxHeartbeats 4000000 in
set_option maxRecDepth 100000 in
theorem c_M_back (l : Launch) (g : GC) (σ : St) (r : Int32) (w_areKindsFound : Int32) (w_isMeasured : Int32) (w_posts : Int32) (w_newRoad : Nat → Int32) (w_road : Nat → Int32) (h : M_back (σ.1 3238) (σ.1 3205) (σ.1 3212) (σ.1 3206) (σ.1 3203) (σ.2.2.1 55) (σ.2.2.1 70) (σ.2.2.1 54) = some (r, w_areKindsFound, w_isMeasured, w_posts, w_newRoad, w_road)) : Cn l g yX9_back (Cond.code yX9_back cX9_back 2 (some .int) :: wG) 1 22 [.ref (g.2.1 50)] σ (some (.int r)) (mkS σ [(3238, w_areKindsFound), (3212, w_isMeasured), (3203, w_posts)] [] [(70, w_newRoad), (54, w_road)] []) := by
  unfold Cn
  refine Met.ofW (cc := cX9_back) (maxL := 2) (ret := (some .int)) (by decide) rfl ?_
  intro p e s m args below meth c s₁ B hml hv
  obtain ⟨hargs, hP0, hK⟩ := hv
  have hx := B.exec
  have hb := B.bytes
  have hr := B.returns
  have hts : ∀ w ∈ wG, w.before args s = true := fun w h => atoms_spec (ws := (Cond.code yX9_back cX9_back 2 (some .int) :: wG)) B.pre w (List.mem_cons_of_mem _ h)
  have hown : s.vm.findClass RX9 = some m.cls := findClass_of_methodNamed B.named
  have hlocks := B.notSynchronized
  have hS9 : CallFix p m c cX9_back 2 s args wG RX9 := ⟨hx, hb, hml, hown, hts⟩
  have hw0 := hts _ mw_4_145
  have hw1 := hts _ mw_4_168
  have hw2 := hts _ mw_4_146
  have hw3 := hts _ mw_4_144
  have hf9 : entryFrame m args 2 = _ := (congrArg (fun a => entryFrame m a 2) hargs).trans (lg_entry_eq m [.ref (g.2.1 50)] 2)
  show Wg p l e 1 22 s m args below meth c g (some (.int r)) (mkS σ [(3238, w_areKindsFound), (3212, w_isMeasured), (3203, w_posts)] [] [(70, w_newRoad), (54, w_road)] []) s.heap [] (entryFrame m args 2)
  rw [hf9]
  have hl := lv_entry ([.ref (g.2.1 50)]) (n := 2) (Nat.le_of_ble_eq_true rfl)
  generalize (lg_sl ([.ref (g.2.1 50)]) ++ List.replicate (2 - (lg_sl ([.ref (g.2.1 50)])).length) Slot.unset).toArray = ls at hl ⊢
  have hl : lv_has ls 2 [(0, .ref (g.2.1 50))] := hl
  have hG : GW g s σ s.heap [] := ⟨hP0, va_S.rf⟩
  have hG : GW g s (mkS σ [(3238, (σ.1 3238)), (3212, (σ.1 3212)), (3203, (σ.1 3203))] [] [(70, (σ.2.2.1 70)), (54, (σ.2.2.1 54))] []) s.heap [] := GW_self [3238, 3212, 3203] [] [70, 54] [] hG
  unfold M_back at h
  have n37 : ∀ (v_areKindsFound : Int32) (v_isMeasured : Int32) (v_posts : Int32) (v_newRoad : Nat → Int32) (v_road : Nat → Int32) (H : Heap) (locs : List Loc) (ls : Array Slot), lv_has ls 2 [(0, .ref (g.2.1 50))] → GW g s (mkS σ [(3238, v_areKindsFound), (3212, v_isMeasured), (3203, v_posts)] [] [(70, v_newRoad), (54, v_road)] []) H locs → M_back_n37 (σ.1 3206) v_areKindsFound v_isMeasured v_posts v_newRoad v_road = some (r, w_areKindsFound, w_isMeasured, w_posts, w_newRoad, w_road) → Wg p l e 1 22 s m args below meth c g (some (.int r)) (mkS σ [(3238, w_areKindsFound), (3212, w_isMeasured), (3203, w_posts)] [] [(70, w_newRoad), (54, w_road)] []) H locs (F0 m 37 ls []) := by
    intro v_areKindsFound v_isMeasured v_posts v_newRoad v_road H locs ls hl hG h
    unfold M_back_n37 at h
    refine lv_aload_n hx hb dX9_back_37 rfl (lv_at hl 0 rfl) ?_
    refine lv_aload_n hx hb dX9_back_38 rfl (lv_at hl 0 rfl) ?_
    refine gx_get (v := .int (σ.1 3206)) (C := RX9) (T := TX9) (N := 44) hx hb hts mc_X9 hown hK hG (ga_50 g _) rfl 6 (by decide) hw0 rfl rfl dX9_back_39 ?_
    obtain ⟨z1, hc2, h⟩ := bnd_some h
    refine gx_cV (σ' := (mkS σ [(3238, z1.1), (3212, z1.2.1), (3203, z1.2.2.1)] [] [(70, v_newRoad), (54, z1.2.2.2)] [])) (r := none) (rest := []) (As := [.int (σ.1 3206)]) hS9 (c_M_become l g (mkS σ [(3238, v_areKindsFound), (3212, v_isMeasured), (3203, v_posts)] [] [(70, v_newRoad), (54, v_road)] []) (σ.1 3206) z1.1 z1.2.1 z1.2.2.1 z1.2.2.2 hc2) (mk_mk rfl rfl rfl rfl) (cwV 1 hts (gz_V mw_6_42 mw_6_44 ms_5_1 mw_1_11 mw_6_45) rfl rfl rfl hdV_X9_become ⟨Nat.le_of_ble_eq_true rfl, Nat.le_of_ble_eq_true rfl⟩) hK hG (ga_50 g _) rfl rfl rfl hl.1 rfl (Nat.le_of_ble_eq_true rfl) dX9_back_42 (fun H locs hG => ?_)
    refine W.eq (g2 := F0 m 45 ls []) rfl ?_
    refine lv_iconst (v := (1 : Int32)) hx hb dX9_back_45 (by decide) ?_
    cases h
    exact gx_iret hx hb hr hlocks hG dX9_back_46
  have n12 : ∀ (k12 : Int32 → Int32 → Int32 → Int32 → (Nat → Int32) → (Nat → Int32) → Option (Int32 × Int32 × Int32 × Int32 × (Nat → Int32) × (Nat → Int32))) (hk12 : ∀ (x1 : Int32) (v_areKindsFound : Int32) (v_isMeasured : Int32) (v_posts : Int32) (v_newRoad : Nat → Int32) (v_road : Nat → Int32) (H : Heap) (locs : List Loc) (ls : Array Slot), lv_has ls 2 [(0, .ref (g.2.1 50)), (1, .int x1)] → GW g s (mkS σ [(3238, v_areKindsFound), (3212, v_isMeasured), (3203, v_posts)] [] [(70, v_newRoad), (54, v_road)] []) H locs → k12 x1 v_areKindsFound v_isMeasured v_posts v_newRoad v_road = some (r, w_areKindsFound, w_isMeasured, w_posts, w_newRoad, w_road) → Wg p l e 1 22 s m args below meth c g (some (.int r)) (mkS σ [(3238, w_areKindsFound), (3212, w_isMeasured), (3203, w_posts)] [] [(70, w_newRoad), (54, w_road)] []) H locs (F0 m 12 ls [])) (x1 : Int32) (v_areKindsFound : Int32) (v_isMeasured : Int32) (v_posts : Int32) (v_newRoad : Nat → Int32) (v_road : Nat → Int32) (H : Heap) (locs : List Loc) (ls : Array Slot), lv_has ls 2 [(0, .ref (g.2.1 50)), (1, .int x1)] → GW g s (mkS σ [(3238, v_areKindsFound), (3212, v_isMeasured), (3203, v_posts)] [] [(70, v_newRoad), (54, v_road)] []) H locs → M_back_n12 k12 (σ.1 3206) (σ.2.2.1 55) x1 v_areKindsFound v_isMeasured v_posts v_newRoad v_road = some (r, w_areKindsFound, w_isMeasured, w_posts, w_newRoad, w_road) → Wg p l e 1 22 s m args below meth c g (some (.int r)) (mkS σ [(3238, w_areKindsFound), (3212, w_isMeasured), (3203, w_posts)] [] [(70, w_newRoad), (54, w_road)] []) H locs (F0 m 12 ls []) := by
    intro k12 hk12 x1 v_areKindsFound v_isMeasured v_posts v_newRoad v_road H locs ls hl hG h
    unfold M_back_n12 at h
    refine lv_iload_n hx hb dX9_back_12 rfl (lv_at hl 1 rfl) ?_
    refine lv_sipush (v := (1024 : Int32)) hx hb dX9_back_13 (by decide) ?_
    refine lv_icmp_ge (tgt := 37) hx hb dX9_back_16 (by decide) (fun c3 => ?_) (fun c3 => ?_)
    · have h := ite_t c3 h
      exact n37 v_areKindsFound v_isMeasured v_posts v_newRoad v_road _ _ _ (lv_sub hl [0] rfl) hG h
    · have h := ite_f c3 h
      refine lv_aload_n hx hb dX9_back_19 rfl (lv_at hl 0 rfl) ?_
      refine gx_get (v := .ref (g.2.1 70)) (C := RX9) (T := TX9) (N := 44) hx hb hts mc_X9 hown hK hG (ga_50 g _) rfl 29 (by decide) hw1 rfl rfl dX9_back_20 ?_
      refine lv_iload_n hx hb dX9_back_23 rfl (lv_at hl 1 rfl) ?_
      refine lv_aload_n hx hb dX9_back_24 rfl (lv_at hl 0 rfl) ?_
      refine gx_get (v := .ref (g.2.1 55)) (C := RX9) (T := TX9) (N := 44) hx hb hts mc_X9 hown hK hG (ga_50 g _) rfl 7 (by decide) hw2 rfl rfl dX9_back_25 ?_
      refine lv_iload_n hx hb dX9_back_28 rfl (lv_at hl 1 rfl) ?_
      obtain ⟨hg4, h⟩ := gd_some h
      refine gx_zald (f := (σ.2.2.1 55)) hx hb hK hG (ga_55 g _) hg4 dX9_back_29 ?_
      obtain ⟨hg5, h⟩ := gd_some h
      refine gx_zast (σ' := (mkS σ [(3238, v_areKindsFound), (3212, v_isMeasured), (3203, v_posts)] [] [(70, (upd v_newRoad (x1.toNatClampNeg) ((σ.2.2.1 55) (x1.toNatClampNeg)))), (54, v_road)] [])) (f := v_newRoad) hx hb hK hG (ga_70 g _) hg4 hg5 ((gs_70 g _ _).trans (congrArg (g_cells g) (mk_c 0 rfl rfl))) dX9_back_30 (fun H locs hG => ?_)
      refine lv_iinc (v := (x1 + (1 : Int32))) (lv' := [(1, .int (x1 + (1 : Int32))), (0, .ref (g.2.1 50))]) hx hb dX9_back_31 hl (k := 1) rfl (congrArg (fun z => x1 + z) (by decide)) (Nat.le_of_ble_eq_true rfl) rfl (fun ls hl => ?_)
      refine lv_goto (tgt := 12) hx hb dX9_back_34 (by decide) ?_
      exact hk12 (x1 + (1 : Int32)) v_areKindsFound v_isMeasured v_posts (upd v_newRoad (x1.toNatClampNeg) ((σ.2.2.1 55) (x1.toNatClampNeg))) v_road _ _ _ (lv_sub hl [1, 0] rfl) hG h
  have l12 : ∀  (F : Nat) (x1 : Int32) (v_areKindsFound : Int32) (v_isMeasured : Int32) (v_posts : Int32) (v_newRoad : Nat → Int32) (v_road : Nat → Int32) (H : Heap) (locs : List Loc) (ls : Array Slot), lv_has ls 2 [(0, .ref (g.2.1 50)), (1, .int x1)] → GW g s (mkS σ [(3238, v_areKindsFound), (3212, v_isMeasured), (3203, v_posts)] [] [(70, v_newRoad), (54, v_road)] []) H locs → M_back_l12 (σ.1 3206) (σ.2.2.1 55) F x1 v_areKindsFound v_isMeasured v_posts v_newRoad v_road = some (r, w_areKindsFound, w_isMeasured, w_posts, w_newRoad, w_road) → Wg p l e 1 22 s m args below meth c g (some (.int r)) (mkS σ [(3238, w_areKindsFound), (3212, w_isMeasured), (3203, w_posts)] [] [(70, w_newRoad), (54, w_road)] []) H locs (F0 m 12 ls []) := by
    intro F
    induction F with
    | zero => intro x1 v_areKindsFound v_isMeasured v_posts v_newRoad v_road H locs ls hl hG h; exact no_some h
    | succ F ih => intro x1 v_areKindsFound v_isMeasured v_posts v_newRoad v_road H locs ls hl hG h; exact n12 (fun x1 v_areKindsFound v_isMeasured v_posts v_newRoad v_road => M_back_l12 (σ.1 3206) (σ.2.2.1 55) F x1 v_areKindsFound v_isMeasured v_posts v_newRoad v_road) ih x1 v_areKindsFound v_isMeasured v_posts v_newRoad v_road H locs ls hl hG h
  refine lv_aload_n hx hb dX9_back_0 rfl (lv_at hl 0 rfl) ?_
  refine gx_get (v := .int (σ.1 3205)) (C := RX9) (T := TX9) (N := 44) hx hb hts mc_X9 hown hK hG (ga_50 g _) rfl 5 (by decide) hw3 rfl rfl dX9_back_1 ?_
  refine lv_if_ne (tgt := 10) hx hb dX9_back_4 (by decide) (fun c6 => ?_) (fun c6 => ?_)
  · have h := ite_f c6 h
    refine lv_iconst (v := (0 : Int32)) hx hb dX9_back_10 (by decide) ?_
    refine lv_istore_n (lv' := [(1, .int (0 : Int32)), (0, .ref (g.2.1 50))]) hx hb dX9_back_11 rfl hl (Nat.le_of_ble_eq_true rfl) rfl (fun ls hl => ?_)
    exact l12 FUEL (0 : Int32) (σ.1 3238) (σ.1 3212) (σ.1 3203) (σ.2.2.1 70) (σ.2.2.1 54) _ _ _ (lv_sub hl [1, 0] rfl) hG h
  · have h := ite_t c6 h
    refine lv_bipush (v := (-5 : Int32)) hx hb dX9_back_7 (by decide) ?_
    cases h
    exact gx_iret hx hb hr hlocks hG dX9_back_9

set_option maxHeartbeats 4000000 in
set_option maxRecDepth 100000 in
theorem c_M_in (l : Launch) (g : GC) (σ : St) (x0 : Int64) (x2 : Int64) (x4 : Int64) (r : Int32) (h : M_in x0 x2 x4 = some r) : Cn l g yX9_in (Cond.code yX9_in cX9_in 6 (some .boolean) :: wG) 0 0 [.long x0, .long x2, .long x4] σ (some (.int r)) σ := by
  unfold Cn
  refine Met.ofW (cc := cX9_in) (maxL := 6) (ret := (some .boolean)) (by decide) rfl ?_
  intro p e s m args below meth c s₁ B hml hv
  obtain ⟨hargs, hP0, hK⟩ := hv
  have hx := B.exec
  have hb := B.bytes
  have hr := B.returns
  have hts : ∀ w ∈ wG, w.before args s = true := fun w h => atoms_spec (ws := (Cond.code yX9_in cX9_in 6 (some .boolean) :: wG)) B.pre w (List.mem_cons_of_mem _ h)
  have hown : s.vm.findClass RX9 = some m.cls := findClass_of_methodNamed B.named
  have hlocks := B.notSynchronized
  have hf9 : entryFrame m args 6 = _ := (congrArg (fun a => entryFrame m a 6) hargs).trans (lg_entry_eq m [.long x0, .long x2, .long x4] 6)
  show Wg p l e 0 0 s m args below meth c g (some (.int r)) σ s.heap [] (entryFrame m args 6)
  rw [hf9]
  have hl := lv_entry ([.long x0, .long x2, .long x4]) (n := 6) (Nat.le_of_ble_eq_true rfl)
  generalize (lg_sl ([.long x0, .long x2, .long x4]) ++ List.replicate (6 - (lg_sl ([.long x0, .long x2, .long x4])).length) Slot.unset).toArray = ls at hl ⊢
  have hl : lv_has ls 6 [(0, .long x0), (2, .long x2), (4, .long x4)] := hl
  have hG : GW g s σ s.heap [] := ⟨hP0, va_S.rf⟩
  unfold M_in at h
  have n18 : ∀ (t0 : Int32) (H : Heap) (locs : List Loc) (ls : Array Slot), lv_has ls 6 [] → GW g s σ H locs → M_in_n18 t0 = some r → Wg p l e 0 0 s m args below meth c g (some (.int r)) σ H locs (F0 m 18 ls [.int t0]) := by
    intro t0 H locs ls hl hG h
    unfold M_in_n18 at h
    obtain ⟨hg1, h⟩ := gd_some h
    cases h
    exact gx_zret hx hb hr hlocks hg1 hG dX9_in_18
  have n17 : ∀  (H : Heap) (locs : List Loc) (ls : Array Slot), lv_has ls 6 [] → GW g s σ H locs → M_in_n17 = some r → Wg p l e 0 0 s m args below meth c g (some (.int r)) σ H locs (F0 m 17 ls []) := by
    intro H locs ls hl hG h
    unfold M_in_n17 at h
    refine lv_iconst (v := (0 : Int32)) hx hb dX9_in_17 (by decide) ?_
    exact n18 (0 : Int32) _ _ _ (lv_sub hl [] rfl) hG h
  refine lv_lload_n hx hb dX9_in_0 rfl (lv_at hl 0 rfl) ?_
  refine lv_lload_n hx hb dX9_in_1 rfl (lv_at hl 1 rfl) ?_
  refine W.lcmp hx hb dX9_in_2 ?_
  refine lv_if_lt (tgt := 17) hx hb dX9_in_3 (by decide) (fun c2 => ?_) (fun c2 => ?_)
  · have h := ite_t c2 h
    exact n17 _ _ _ (lv_sub hl [] rfl) hG h
  · have h := ite_f c2 h
    refine lv_lload_n hx hb dX9_in_6 rfl (lv_at hl 0 rfl) ?_
    refine lv_lload hx hb dX9_in_7 (lv_at hl 2 rfl) ?_
    refine W.lcmp hx hb dX9_in_9 ?_
    refine lv_if_gt (tgt := 17) hx hb dX9_in_10 (by decide) (fun c3 => ?_) (fun c3 => ?_)
    · have h := ite_t c3 h
      exact n17 _ _ _ (lv_sub hl [] rfl) hG h
    · have h := ite_f c3 h
      refine lv_iconst (v := (1 : Int32)) hx hb dX9_in_13 (by decide) ?_
      refine lv_goto (tgt := 18) hx hb dX9_in_14 (by decide) ?_
      exact n18 (1 : Int32) _ _ _ (lv_sub hl [] rfl) hG h

set_option maxHeartbeats 4000000 in
set_option maxRecDepth 100000 in
theorem c_M_bound (l : Launch) (g : GC) (σ : St) (x1 : Int32) (x2 : Int32) (r : Int64) (h : M_bound x1 x2 = some r) : Cn l g yX9_bound (Cond.code yX9_bound cX9_bound 8 (some .long) :: wG) 1 25 [.ref (g.2.1 50), .int x1, .int x2] σ (some (.long r)) σ := by
  unfold Cn
  refine Met.ofW (cc := cX9_bound) (maxL := 8) (ret := (some .long)) (by decide) rfl ?_
  intro p e s m args below meth c s₁ B hml hv
  obtain ⟨hargs, hP0, hK⟩ := hv
  have hx := B.exec
  have hb := B.bytes
  have hr := B.returns
  have hts : ∀ w ∈ wG, w.before args s = true := fun w h => atoms_spec (ws := (Cond.code yX9_bound cX9_bound 8 (some .long) :: wG)) B.pre w (List.mem_cons_of_mem _ h)
  have hown : s.vm.findClass RX9 = some m.cls := findClass_of_methodNamed B.named
  have hlocks := B.notSynchronized
  have hS9 : CallFix p m c cX9_bound 8 s args wG RX9 := ⟨hx, hb, hml, hown, hts⟩
  have hw0 := hts _ mw_6_26
  have hw1 := hts _ mw_6_32
  have hw2 := hts _ mw_6_33
  have hf9 : entryFrame m args 8 = _ := (congrArg (fun a => entryFrame m a 8) hargs).trans (lg_entry_eq m [.ref (g.2.1 50), .int x1, .int x2] 8)
  show Wg p l e 1 25 s m args below meth c g (some (.long r)) σ s.heap [] (entryFrame m args 8)
  rw [hf9]
  have hl := lv_entry ([.ref (g.2.1 50), .int x1, .int x2]) (n := 8) (Nat.le_of_ble_eq_true rfl)
  generalize (lg_sl ([.ref (g.2.1 50), .int x1, .int x2]) ++ List.replicate (8 - (lg_sl ([.ref (g.2.1 50), .int x1, .int x2])).length) Slot.unset).toArray = ls at hl ⊢
  have hl : lv_has ls 8 [(0, .ref (g.2.1 50)), (1, .int x1), (2, .int x2)] := hl
  have hG : GW g s σ s.heap [] := ⟨hP0, va_S.rf⟩
  unfold M_bound at h
  have n24 : ∀  (H : Heap) (locs : List Loc) (ls : Array Slot), lv_has ls 8 [] → GW g s σ H locs → M_bound_n24 = some r → Wg p l e 1 25 s m args below meth c g (some (.long r)) σ H locs (F0 m 24 ls []) := by
    intro H locs ls hl hG h
    unfold M_bound_n24 at h
    refine lv_ldc2 hx hb hown hw0 dX9_bound_24 ?_
    cases h
    exact gx_lret hx hb hr hlocks hG dX9_bound_27
  have n63 : ∀ (x3 : Int64) (H : Heap) (locs : List Loc) (ls : Array Slot), lv_has ls 8 [(3, .long x3)] → GW g s σ H locs → M_bound_n63 x3 = some r → Wg p l e 1 25 s m args below meth c g (some (.long r)) σ H locs (F0 m 63 ls []) := by
    intro x3 H locs ls hl hG h
    unfold M_bound_n63 at h
    refine lv_lload_n hx hb dX9_bound_63 rfl (lv_at hl 0 rfl) ?_
    cases h
    exact gx_lret hx hb hr hlocks hG dX9_bound_64
  have n37 : ∀ (k37 : Int32 → Int32 → Int64 → Int64 → Int32 → Option (Int64)) (hk37 : ∀ (x1 : Int32) (x2 : Int32) (x3 : Int64) (x5 : Int64) (x7 : Int32) (H : Heap) (locs : List Loc) (ls : Array Slot), lv_has ls 8 [(1, .int x1), (2, .int x2), (3, .long x3), (5, .long x5), (7, .int x7)] → GW g s σ H locs → k37 x1 x2 x3 x5 x7 = some r → Wg p l e 1 25 s m args below meth c g (some (.long r)) σ H locs (F0 m 37 ls [])) (x1 : Int32) (x2 : Int32) (x3 : Int64) (x5 : Int64) (x7 : Int32) (H : Heap) (locs : List Loc) (ls : Array Slot), lv_has ls 8 [(1, .int x1), (2, .int x2), (3, .long x3), (5, .long x5), (7, .int x7)] → GW g s σ H locs → M_bound_n37 k37 x1 x2 x3 x5 x7 = some r → Wg p l e 1 25 s m args below meth c g (some (.long r)) σ H locs (F0 m 37 ls []) := by
    intro k37 hk37 x1 x2 x3 x5 x7 H locs ls hl hG h
    unfold M_bound_n37 at h
    refine lv_iload hx hb dX9_bound_37 (lv_at hl 4 rfl) ?_
    refine lv_iload_n hx hb dX9_bound_39 rfl (lv_at hl 1 rfl) ?_
    refine lv_icmp_gt (tgt := 63) hx hb dX9_bound_40 (by decide) (fun c1 => ?_) (fun c1 => ?_)
    · have h := ite_t c1 h
      exact n63 x3 _ _ _ (lv_sub hl [2] rfl) hG h
    · have h := ite_f c1 h
      refine lv_lload_n hx hb dX9_bound_43 rfl (lv_at hl 2 rfl) ?_
      refine lv_lload hx hb dX9_bound_44 (lv_at hl 3 rfl) ?_
      refine lv_ladd hx hb dX9_bound_46 ?_
      refine lv_lstore_n (lv' := [(3, .long (x3 + x5)), (1, .int x1), (2, .int x2), (5, .long x5), (7, .int x7)]) hx hb dX9_bound_47 rfl hl (Nat.le_of_ble_eq_true rfl) rfl (fun ls hl => ?_)
      refine lv_lload hx hb dX9_bound_48 (lv_at hl 3 rfl) ?_
      refine lv_iload_n hx hb dX9_bound_50 rfl (lv_at hl 1 rfl) ?_
      refine lv_iconst (v := (1 : Int32)) hx hb dX9_bound_51 (by decide) ?_
      refine lv_isub hx hb dX9_bound_52 ?_
      refine lv_i2l hx hb dX9_bound_53 rfl ?_
      refine lv_lmul hx hb dX9_bound_54 ?_
      refine lv_topl (fun y2 ey2 => ?_)
      have h := lt_at h ey2
      refine lv_lstore (lv' := [(5, .long y2), (3, .long (x3 + x5)), (1, .int x1), (2, .int x2), (7, .int x7)]) hx hb dX9_bound_55 hl (Nat.le_of_ble_eq_true rfl) rfl (fun ls hl => ?_)
      refine lv_iinc (v := (x7 + (1 : Int32))) (lv' := [(7, .int (x7 + (1 : Int32))), (5, .long y2), (3, .long (x3 + x5)), (1, .int x1), (2, .int x2)]) hx hb dX9_bound_57 hl (k := 4) rfl (congrArg (fun z => x7 + z) (by decide)) (Nat.le_of_ble_eq_true rfl) rfl (fun ls hl => ?_)
      refine lv_goto (tgt := 37) hx hb dX9_bound_60 (by decide) ?_
      exact hk37 x1 x2 (x3 + x5) y2 (x7 + (1 : Int32)) _ _ _ (lv_sub hl [3, 4, 2, 1, 0] rfl) hG h
  have l37 : ∀  (F : Nat) (x1 : Int32) (x2 : Int32) (x3 : Int64) (x5 : Int64) (x7 : Int32) (H : Heap) (locs : List Loc) (ls : Array Slot), lv_has ls 8 [(1, .int x1), (2, .int x2), (3, .long x3), (5, .long x5), (7, .int x7)] → GW g s σ H locs → M_bound_l37 F x1 x2 x3 x5 x7 = some r → Wg p l e 1 25 s m args below meth c g (some (.long r)) σ H locs (F0 m 37 ls []) := by
    intro F
    induction F with
    | zero => intro x1 x2 x3 x5 x7 H locs ls hl hG h; exact no_some h
    | succ F ih => intro x1 x2 x3 x5 x7 H locs ls hl hG h; exact n37 (fun x1 x2 x3 x5 x7 => M_bound_l37 F x1 x2 x3 x5 x7) ih x1 x2 x3 x5 x7 H locs ls hl hG h
  refine lv_iload_n hx hb dX9_bound_0 rfl (lv_at hl 1 rfl) ?_
  refine lv_i2l hx hb dX9_bound_1 rfl ?_
  refine lv_lconst (v := (1 : Int64)) hx hb dX9_bound_2 (by decide) ?_
  refine lv_ldc2 hx hb hown hw1 dX9_bound_3 ?_
  obtain ⟨z3, hc4, h⟩ := bnd_some h
  refine gx_cS (σ' := σ) (r := (some (.int z3))) (rest := []) (As := [.long (x1.toInt64), .long (1 : Int64), .long (60 : Int64)]) hS9 (c_M_in l g σ (x1.toInt64) (1 : Int64) (60 : Int64) z3 hc4) rfl (va_cwS 3 hts (gz_S mw_5_41 mw_5_42 mw_1_11 mw_5_43) rfl rfl rfl hdS_X9_in ⟨Nat.le_of_ble_eq_true rfl, Nat.le_of_ble_eq_true rfl⟩) hK hG rfl hl.1 rfl (Nat.le_of_ble_eq_true rfl) dX9_bound_6 (fun H locs hG => ?_)
  refine W.eq (g2 := F0 m 9 ls [.int z3]) rfl ?_
  refine lv_if_eq (tgt := 24) hx hb dX9_bound_9 (by decide) (fun c5 => ?_) (fun c5 => ?_)
  · have h := ite_t c5 h
    exact n24 _ _ _ (lv_sub hl [] rfl) hG h
  · have h := ite_f c5 h
    refine lv_iload_n hx hb dX9_bound_12 rfl (lv_at hl 2 rfl) ?_
    refine lv_i2l hx hb dX9_bound_13 rfl ?_
    refine lv_lconst (v := (1 : Int64)) hx hb dX9_bound_14 (by decide) ?_
    refine lv_ldc2 hx hb hown hw2 dX9_bound_15 ?_
    obtain ⟨z6, hc7, h⟩ := bnd_some h
    refine gx_cS (σ' := σ) (r := (some (.int z6))) (rest := []) (As := [.long (x2.toInt64), .long (1 : Int64), .long (6 : Int64)]) hS9 (c_M_in l g σ (x2.toInt64) (1 : Int64) (6 : Int64) z6 hc7) rfl (va_cwS 3 hts (gz_S mw_5_41 mw_5_42 mw_1_11 mw_5_43) rfl rfl rfl hdS_X9_in ⟨Nat.le_of_ble_eq_true rfl, Nat.le_of_ble_eq_true rfl⟩) hK hG rfl hl.1 rfl (Nat.le_of_ble_eq_true rfl) dX9_bound_18 (fun H locs hG => ?_)
    refine W.eq (g2 := F0 m 21 ls [.int z6]) rfl ?_
    refine lv_if_ne (tgt := 28) hx hb dX9_bound_21 (by decide) (fun c8 => ?_) (fun c8 => ?_)
    · have h := ite_f c8 h
      refine lv_lconst (v := (1 : Int64)) hx hb dX9_bound_28 (by decide) ?_
      refine lv_lstore_n (lv' := [(3, .long (1 : Int64)), (0, .ref (g.2.1 50)), (1, .int x1), (2, .int x2)]) hx hb dX9_bound_29 rfl hl (Nat.le_of_ble_eq_true rfl) rfl (fun ls hl => ?_)
      refine lv_iload_n hx hb dX9_bound_30 rfl (lv_at hl 2 rfl) ?_
      refine lv_i2l hx hb dX9_bound_31 rfl ?_
      refine lv_lstore (lv' := [(5, .long (x1.toInt64)), (3, .long (1 : Int64)), (0, .ref (g.2.1 50)), (1, .int x1), (2, .int x2)]) hx hb dX9_bound_32 hl (Nat.le_of_ble_eq_true rfl) rfl (fun ls hl => ?_)
      refine lv_iconst (v := (1 : Int32)) hx hb dX9_bound_34 (by decide) ?_
      refine lv_istore (lv' := [(7, .int (1 : Int32)), (5, .long (x1.toInt64)), (3, .long (1 : Int64)), (0, .ref (g.2.1 50)), (1, .int x1), (2, .int x2)]) hx hb dX9_bound_35 hl (Nat.le_of_ble_eq_true rfl) rfl (fun ls hl => ?_)
      exact l37 FUEL x1 x2 (1 : Int64) (x1.toInt64) (1 : Int32) _ _ _ (lv_sub hl [4, 5, 2, 1, 0] rfl) hG h
    · have h := ite_t c8 h
      exact n24 _ _ _ (lv_sub hl [] rfl) hG h

set_option maxHeartbeats 4000000 in
set_option maxRecDepth 100000 in
theorem c_M_may (l : Launch) (g : GC) (σ : St) (x0 : Int32) (x1 : Int32) (x2 : Int32) (r : Int32) (h : M_may x0 x1 x2 = some r) : Cn l g yX9_may (Cond.code yX9_may cX9_may 3 (some .boolean) :: wG) 0 0 [.int x0, .int x1, .int x2] σ (some (.int r)) σ := by
  unfold Cn
  refine Met.ofW (cc := cX9_may) (maxL := 3) (ret := (some .boolean)) (by decide) rfl ?_
  intro p e s m args below meth c s₁ B hml hv
  obtain ⟨hargs, hP0, hK⟩ := hv
  have hx := B.exec
  have hb := B.bytes
  have hr := B.returns
  have hts : ∀ w ∈ wG, w.before args s = true := fun w h => atoms_spec (ws := (Cond.code yX9_may cX9_may 3 (some .boolean) :: wG)) B.pre w (List.mem_cons_of_mem _ h)
  have hown : s.vm.findClass RX9 = some m.cls := findClass_of_methodNamed B.named
  have hlocks := B.notSynchronized
  have hf9 : entryFrame m args 3 = _ := (congrArg (fun a => entryFrame m a 3) hargs).trans (lg_entry_eq m [.int x0, .int x1, .int x2] 3)
  show Wg p l e 0 0 s m args below meth c g (some (.int r)) σ s.heap [] (entryFrame m args 3)
  rw [hf9]
  have hl := lv_entry ([.int x0, .int x1, .int x2]) (n := 3) (Nat.le_of_ble_eq_true rfl)
  generalize (lg_sl ([.int x0, .int x1, .int x2]) ++ List.replicate (3 - (lg_sl ([.int x0, .int x1, .int x2])).length) Slot.unset).toArray = ls at hl ⊢
  have hl : lv_has ls 3 [(0, .int x0), (1, .int x1), (2, .int x2)] := hl
  have hG : GW g s σ s.heap [] := ⟨hP0, va_S.rf⟩
  unfold M_may at h
  have n50 : ∀ (t0 : Int32) (H : Heap) (locs : List Loc) (ls : Array Slot), lv_has ls 3 [] → GW g s σ H locs → M_may_n50 t0 = some r → Wg p l e 0 0 s m args below meth c g (some (.int r)) σ H locs (F0 m 50 ls [.int t0]) := by
    intro t0 H locs ls hl hG h
    unfold M_may_n50 at h
    obtain ⟨hg1, h⟩ := gd_some h
    cases h
    exact gx_zret hx hb hr hlocks hg1 hG dX9_may_50
  have n61 : ∀ (t0 : Int32) (H : Heap) (locs : List Loc) (ls : Array Slot), lv_has ls 3 [] → GW g s σ H locs → M_may_n61 t0 = some r → Wg p l e 0 0 s m args below meth c g (some (.int r)) σ H locs (F0 m 61 ls [.int t0]) := by
    intro t0 H locs ls hl hG h
    unfold M_may_n61 at h
    obtain ⟨hg2, h⟩ := gd_some h
    cases h
    exact gx_zret hx hb hr hlocks hg2 hG dX9_may_61
  have n77 : ∀ (t0 : Int32) (H : Heap) (locs : List Loc) (ls : Array Slot), lv_has ls 3 [] → GW g s σ H locs → M_may_n77 t0 = some r → Wg p l e 0 0 s m args below meth c g (some (.int r)) σ H locs (F0 m 77 ls [.int t0]) := by
    intro t0 H locs ls hl hG h
    unfold M_may_n77 at h
    obtain ⟨hg3, h⟩ := gd_some h
    cases h
    exact gx_zret hx hb hr hlocks hg3 hG dX9_may_77
  have n76 : ∀  (H : Heap) (locs : List Loc) (ls : Array Slot), lv_has ls 3 [] → GW g s σ H locs → M_may_n76 = some r → Wg p l e 0 0 s m args below meth c g (some (.int r)) σ H locs (F0 m 76 ls []) := by
    intro H locs ls hl hG h
    unfold M_may_n76 at h
    refine lv_iconst (v := (0 : Int32)) hx hb dX9_may_76 (by decide) ?_
    exact n77 (0 : Int32) _ _ _ (lv_sub hl [] rfl) hG h
  have n93 : ∀ (t0 : Int32) (H : Heap) (locs : List Loc) (ls : Array Slot), lv_has ls 3 [] → GW g s σ H locs → M_may_n93 t0 = some r → Wg p l e 0 0 s m args below meth c g (some (.int r)) σ H locs (F0 m 93 ls [.int t0]) := by
    intro t0 H locs ls hl hG h
    unfold M_may_n93 at h
    obtain ⟨hg4, h⟩ := gd_some h
    cases h
    exact gx_zret hx hb hr hlocks hg4 hG dX9_may_93
  have n92 : ∀  (H : Heap) (locs : List Loc) (ls : Array Slot), lv_has ls 3 [] → GW g s σ H locs → M_may_n92 = some r → Wg p l e 0 0 s m args below meth c g (some (.int r)) σ H locs (F0 m 92 ls []) := by
    intro H locs ls hl hG h
    unfold M_may_n92 at h
    refine lv_iconst (v := (0 : Int32)) hx hb dX9_may_92 (by decide) ?_
    exact n93 (0 : Int32) _ _ _ (lv_sub hl [] rfl) hG h
  have n78 : ∀ (x1 : Int32) (x2 : Int32) (H : Heap) (locs : List Loc) (ls : Array Slot), lv_has ls 3 [(1, .int x1), (2, .int x2)] → GW g s σ H locs → M_may_n78 x1 x2 = some r → Wg p l e 0 0 s m args below meth c g (some (.int r)) σ H locs (F0 m 78 ls []) := by
    intro x1 x2 H locs ls hl hG h
    unfold M_may_n78 at h
    refine lv_iload_n hx hb dX9_may_78 rfl (lv_at hl 1 rfl) ?_
    refine lv_iconst (v := (1 : Int32)) hx hb dX9_may_79 (by decide) ?_
    refine lv_icmp_lt (tgt := 92) hx hb dX9_may_80 (by decide) (fun c5 => ?_) (fun c5 => ?_)
    · have h := ite_t c5 h
      exact n92 _ _ _ (lv_sub hl [] rfl) hG h
    · have h := ite_f c5 h
      refine lv_iload_n hx hb dX9_may_83 rfl (lv_at hl 1 rfl) ?_
      refine lv_iload_n hx hb dX9_may_84 rfl (lv_at hl 0 rfl) ?_
      refine lv_icmp_ge (tgt := 92) hx hb dX9_may_85 (by decide) (fun c6 => ?_) (fun c6 => ?_)
      · have h := ite_t c6 h
        exact n92 _ _ _ (lv_sub hl [] rfl) hG h
      · have h := ite_f c6 h
        refine lv_iconst (v := (1 : Int32)) hx hb dX9_may_88 (by decide) ?_
        refine lv_goto (tgt := 93) hx hb dX9_may_89 (by decide) ?_
        exact n93 (1 : Int32) _ _ _ (lv_sub hl [] rfl) hG h
  have n109 : ∀ (t0 : Int32) (H : Heap) (locs : List Loc) (ls : Array Slot), lv_has ls 3 [] → GW g s σ H locs → M_may_n109 t0 = some r → Wg p l e 0 0 s m args below meth c g (some (.int r)) σ H locs (F0 m 109 ls [.int t0]) := by
    intro t0 H locs ls hl hG h
    unfold M_may_n109 at h
    obtain ⟨hg7, h⟩ := gd_some h
    cases h
    exact gx_zret hx hb hr hlocks hg7 hG dX9_may_109
  have n108 : ∀  (H : Heap) (locs : List Loc) (ls : Array Slot), lv_has ls 3 [] → GW g s σ H locs → M_may_n108 = some r → Wg p l e 0 0 s m args below meth c g (some (.int r)) σ H locs (F0 m 108 ls []) := by
    intro H locs ls hl hG h
    unfold M_may_n108 at h
    refine lv_iconst (v := (0 : Int32)) hx hb dX9_may_108 (by decide) ?_
    exact n109 (0 : Int32) _ _ _ (lv_sub hl [] rfl) hG h
  refine lv_iload_n hx hb dX9_may_0 rfl (lv_at hl 0 rfl) ?_
  by_cases c8 : x0 = (0 : Int32)
  · have h := ite_t c8 h
    refine lv_tableIn (off := 39) (tgt := 40) hx hb dX9_may_1 (by rw [c8]; decide) (by rw [c8]; decide) (by rw [c8]; rfl) (by decide) ?_
    refine lv_iload_n hx hb dX9_may_40 rfl (lv_at hl 1 rfl) ?_
    refine lv_iconst (v := (3 : Int32)) hx hb dX9_may_41 (by decide) ?_
    refine lv_icmp_lt (tgt := 49) hx hb dX9_may_42 (by decide) (fun c9 => ?_) (fun c9 => ?_)
    · have h := ite_t c9 h
      refine lv_iconst (v := (0 : Int32)) hx hb dX9_may_49 (by decide) ?_
      exact n50 (0 : Int32) _ _ _ (lv_sub hl [] rfl) hG h
    · have h := ite_f c9 h
      refine lv_iconst (v := (1 : Int32)) hx hb dX9_may_45 (by decide) ?_
      refine lv_goto (tgt := 50) hx hb dX9_may_46 (by decide) ?_
      exact n50 (1 : Int32) _ _ _ (lv_sub hl [] rfl) hG h
  · have h := ite_f c8 h
    by_cases c10 : x0 = (1 : Int32)
    · have h := ite_t c10 h
      refine lv_tableIn (off := 50) (tgt := 51) hx hb dX9_may_1 (by rw [c10]; decide) (by rw [c10]; decide) (by rw [c10]; rfl) (by decide) ?_
      refine lv_iload_n hx hb dX9_may_51 rfl (lv_at hl 1 rfl) ?_
      refine lv_iconst (v := (1 : Int32)) hx hb dX9_may_52 (by decide) ?_
      refine lv_icmp_lt (tgt := 60) hx hb dX9_may_53 (by decide) (fun c11 => ?_) (fun c11 => ?_)
      · have h := ite_t c11 h
        refine lv_iconst (v := (0 : Int32)) hx hb dX9_may_60 (by decide) ?_
        exact n61 (0 : Int32) _ _ _ (lv_sub hl [] rfl) hG h
      · have h := ite_f c11 h
        refine lv_iconst (v := (1 : Int32)) hx hb dX9_may_56 (by decide) ?_
        refine lv_goto (tgt := 61) hx hb dX9_may_57 (by decide) ?_
        exact n61 (1 : Int32) _ _ _ (lv_sub hl [] rfl) hG h
    · have h := ite_f c10 h
      by_cases c12 : x0 = (2 : Int32)
      · have h := ite_t c12 h
        refine lv_tableIn (off := 61) (tgt := 62) hx hb dX9_may_1 (by rw [c12]; decide) (by rw [c12]; decide) (by rw [c12]; rfl) (by decide) ?_
        refine lv_iload_n hx hb dX9_may_62 rfl (lv_at hl 1 rfl) ?_
        refine lv_iconst (v := (2 : Int32)) hx hb dX9_may_63 (by decide) ?_
        refine lv_icmp_lt (tgt := 76) hx hb dX9_may_64 (by decide) (fun c13 => ?_) (fun c13 => ?_)
        · have h := ite_t c13 h
          exact n76 _ _ _ (lv_sub hl [] rfl) hG h
        · have h := ite_f c13 h
          refine lv_iload_n hx hb dX9_may_67 rfl (lv_at hl 2 rfl) ?_
          refine lv_iconst (v := (1 : Int32)) hx hb dX9_may_68 (by decide) ?_
          refine lv_icmp_lt (tgt := 76) hx hb dX9_may_69 (by decide) (fun c14 => ?_) (fun c14 => ?_)
          · have h := ite_t c14 h
            exact n76 _ _ _ (lv_sub hl [] rfl) hG h
          · have h := ite_f c14 h
            refine lv_iconst (v := (1 : Int32)) hx hb dX9_may_72 (by decide) ?_
            refine lv_goto (tgt := 77) hx hb dX9_may_73 (by decide) ?_
            exact n77 (1 : Int32) _ _ _ (lv_sub hl [] rfl) hG h
      · have h := ite_f c12 h
        by_cases c15 : x0 = (3 : Int32)
        · have h := ite_t c15 h
          refine lv_tableIn (off := 77) (tgt := 78) hx hb dX9_may_1 (by rw [c15]; decide) (by rw [c15]; decide) (by rw [c15]; rfl) (by decide) ?_
          exact n78 x1 x2 _ _ _ (lv_sub hl [1, 2] rfl) hG h
        · have h := ite_f c15 h
          by_cases c16 : x0 = (4 : Int32)
          · have h := ite_t c16 h
            refine lv_tableIn (off := 77) (tgt := 78) hx hb dX9_may_1 (by rw [c16]; decide) (by rw [c16]; decide) (by rw [c16]; rfl) (by decide) ?_
            exact n78 x1 x2 _ _ _ (lv_sub hl [1, 2] rfl) hG h
          · have h := ite_f c16 h
            by_cases c17 : x0 = (5 : Int32)
            · have h := ite_t c17 h
              refine lv_tableIn (off := 93) (tgt := 94) hx hb dX9_may_1 (by rw [c17]; decide) (by rw [c17]; decide) (by rw [c17]; rfl) (by decide) ?_
              refine lv_iload_n hx hb dX9_may_94 rfl (lv_at hl 1 rfl) ?_
              refine lv_iconst (v := (1 : Int32)) hx hb dX9_may_95 (by decide) ?_
              refine lv_icmp_lt (tgt := 108) hx hb dX9_may_96 (by decide) (fun c18 => ?_) (fun c18 => ?_)
              · have h := ite_t c18 h
                exact n108 _ _ _ (lv_sub hl [] rfl) hG h
              · have h := ite_f c18 h
                refine lv_iload_n hx hb dX9_may_99 rfl (lv_at hl 2 rfl) ?_
                refine lv_iconst (v := (1 : Int32)) hx hb dX9_may_100 (by decide) ?_
                refine lv_icmp_lt (tgt := 108) hx hb dX9_may_101 (by decide) (fun c19 => ?_) (fun c19 => ?_)
                · have h := ite_t c19 h
                  exact n108 _ _ _ (lv_sub hl [] rfl) hG h
                · have h := ite_f c19 h
                  refine lv_iconst (v := (1 : Int32)) hx hb dX9_may_104 (by decide) ?_
                  refine lv_goto (tgt := 109) hx hb dX9_may_105 (by decide) ?_
                  exact n109 (1 : Int32) _ _ _ (lv_sub hl [] rfl) hG h
            · have h := ite_f c17 h
              refine lv_tableOut (tgt := 110) hx hb dX9_may_1 (sw_out (fun q h1 h2 => ?_)) (by decide) ?_
              · rcases (show q = 0 ∨ q = 1 ∨ q = 2 ∨ q = 3 ∨ q = 4 ∨ q = 5 by omega) with rfl | rfl | rfl | rfl | rfl | rfl
                · exact lv_neT c8 (by decide)
                · exact lv_neT c10 (by decide)
                · exact lv_neT c12 (by decide)
                · exact lv_neT c15 (by decide)
                · exact lv_neT c16 (by decide)
                · exact lv_neT c17 (by decide)
              refine lv_iconst (v := (0 : Int32)) hx hb dX9_may_110 (by decide) ?_
              cases h
              exact gx_zret hx hb hr hlocks (by decide) hG dX9_may_111

set_option maxHeartbeats 4000000 in
set_option maxRecDepth 100000 in
theorem c_M_power2 (l : Launch) (g : GC) (σ : St) (x0 : Int32) (x1 : Int32) (r : Int32) (h : M_power2 x0 x1 = some r) : Cn l g yX9_power (Cond.code yX9_power cX9_power 5 (some .int) :: wG) 0 0 [.int x0, .int x1] σ (some (.int r)) σ := by
  unfold Cn
  refine Met.ofW (cc := cX9_power) (maxL := 5) (ret := (some .int)) (by decide) rfl ?_
  intro p e s m args below meth c s₁ B hml hv
  obtain ⟨hargs, hP0, hK⟩ := hv
  have hx := B.exec
  have hb := B.bytes
  have hr := B.returns
  have hts : ∀ w ∈ wG, w.before args s = true := fun w h => atoms_spec (ws := (Cond.code yX9_power cX9_power 5 (some .int) :: wG)) B.pre w (List.mem_cons_of_mem _ h)
  have hown : s.vm.findClass RX9 = some m.cls := findClass_of_methodNamed B.named
  have hlocks := B.notSynchronized
  have hw0 := hts _ mw_5_57
  have hf9 : entryFrame m args 5 = _ := (congrArg (fun a => entryFrame m a 5) hargs).trans (lg_entry_eq m [.int x0, .int x1] 5)
  show Wg p l e 0 0 s m args below meth c g (some (.int r)) σ s.heap [] (entryFrame m args 5)
  rw [hf9]
  have hl := lv_entry ([.int x0, .int x1]) (n := 5) (Nat.le_of_ble_eq_true rfl)
  generalize (lg_sl ([.int x0, .int x1]) ++ List.replicate (5 - (lg_sl ([.int x0, .int x1])).length) Slot.unset).toArray = ls at hl ⊢
  have hl : lv_has ls 5 [(0, .int x0), (1, .int x1)] := hl
  have hG : GW g s σ s.heap [] := ⟨hP0, va_S.rf⟩
  unfold M_power2 at h
  have n45 : ∀ (t0 : Int32) (H : Heap) (locs : List Loc) (ls : Array Slot), lv_has ls 5 [] → GW g s σ H locs → M_power2_n45 t0 = some r → Wg p l e 0 0 s m args below meth c g (some (.int r)) σ H locs (F0 m 45 ls [.int t0]) := by
    intro t0 H locs ls hl hG h
    unfold M_power2_n45 at h
    cases h
    exact gx_iret hx hb hr hlocks hG dX9_power_45
  have n30 : ∀ (x2 : Int64) (H : Heap) (locs : List Loc) (ls : Array Slot), lv_has ls 5 [(2, .long x2)] → GW g s σ H locs → M_power2_n30 x2 = some r → Wg p l e 0 0 s m args below meth c g (some (.int r)) σ H locs (F0 m 30 ls []) := by
    intro x2 H locs ls hl hG h
    unfold M_power2_n30 at h
    refine lv_lload_n hx hb dX9_power_30 rfl (lv_at hl 0 rfl) ?_
    refine lv_ldc2 hx hb hown hw0 dX9_power_31 ?_
    refine W.lcmp hx hb dX9_power_34 ?_
    refine lv_if_le (tgt := 43) hx hb dX9_power_35 (by decide) (fun c1 => ?_) (fun c1 => ?_)
    · have h := ite_t c1 h
      refine lv_lload_n hx hb dX9_power_43 rfl (lv_at hl 0 rfl) ?_
      refine lv_l2i hx hb dX9_power_44 rfl ?_
      exact n45 (x2.toInt32) _ _ _ (lv_sub hl [] rfl) hG h
    · have h := ite_f c1 h
      refine lv_bipush (v := (33 : Int32)) hx hb dX9_power_38 (by decide) ?_
      refine lv_goto (tgt := 45) hx hb dX9_power_40 (by decide) ?_
      exact n45 (33 : Int32) _ _ _ (lv_sub hl [] rfl) hG h
  have n5 : ∀ (k5 : Int32 → Int32 → Int64 → Int32 → Option (Int32)) (hk5 : ∀ (x0 : Int32) (x1 : Int32) (x2 : Int64) (x4 : Int32) (H : Heap) (locs : List Loc) (ls : Array Slot), lv_has ls 5 [(0, .int x0), (1, .int x1), (2, .long x2), (4, .int x4)] → GW g s σ H locs → k5 x0 x1 x2 x4 = some r → Wg p l e 0 0 s m args below meth c g (some (.int r)) σ H locs (F0 m 5 ls [])) (x0 : Int32) (x1 : Int32) (x2 : Int64) (x4 : Int32) (H : Heap) (locs : List Loc) (ls : Array Slot), lv_has ls 5 [(0, .int x0), (1, .int x1), (2, .long x2), (4, .int x4)] → GW g s σ H locs → M_power2_n5 k5 x0 x1 x2 x4 = some r → Wg p l e 0 0 s m args below meth c g (some (.int r)) σ H locs (F0 m 5 ls []) := by
    intro k5 hk5 x0 x1 x2 x4 H locs ls hl hG h
    unfold M_power2_n5 at h
    refine lv_iload hx hb dX9_power_5 (lv_at hl 3 rfl) ?_
    refine lv_iload_n hx hb dX9_power_7 rfl (lv_at hl 1 rfl) ?_
    refine lv_icmp_ge (tgt := 30) hx hb dX9_power_8 (by decide) (fun c2 => ?_) (fun c2 => ?_)
    · have h := ite_t c2 h
      exact n30 x2 _ _ _ (lv_sub hl [2] rfl) hG h
    · have h := ite_f c2 h
      refine lv_lload_n hx hb dX9_power_11 rfl (lv_at hl 2 rfl) ?_
      refine lv_ldc2 hx hb hown hw0 dX9_power_12 ?_
      refine W.lcmp hx hb dX9_power_15 ?_
      refine lv_if_gt (tgt := 30) hx hb dX9_power_16 (by decide) (fun c3 => ?_) (fun c3 => ?_)
      · have h := ite_t c3 h
        exact n30 x2 _ _ _ (lv_sub hl [2] rfl) hG h
      · have h := ite_f c3 h
        refine lv_lload_n hx hb dX9_power_19 rfl (lv_at hl 2 rfl) ?_
        refine lv_iload_n hx hb dX9_power_20 rfl (lv_at hl 0 rfl) ?_
        refine lv_i2l hx hb dX9_power_21 rfl ?_
        refine lv_lmul hx hb dX9_power_22 ?_
        refine lv_lstore_n (lv' := [(2, .long (x2 * (x0.toInt64))), (0, .int x0), (1, .int x1), (4, .int x4)]) hx hb dX9_power_23 rfl hl (Nat.le_of_ble_eq_true rfl) rfl (fun ls hl => ?_)
        refine lv_iinc (v := (x4 + (1 : Int32))) (lv' := [(4, .int (x4 + (1 : Int32))), (2, .long (x2 * (x0.toInt64))), (0, .int x0), (1, .int x1)]) hx hb dX9_power_24 hl (k := 3) rfl (congrArg (fun z => x4 + z) (by decide)) (Nat.le_of_ble_eq_true rfl) rfl (fun ls hl => ?_)
        refine lv_goto (tgt := 5) hx hb dX9_power_27 (by decide) ?_
        exact hk5 x0 x1 (x2 * (x0.toInt64)) (x4 + (1 : Int32)) _ _ _ (lv_sub hl [2, 3, 1, 0] rfl) hG h
  have l5 : ∀  (F : Nat) (x0 : Int32) (x1 : Int32) (x2 : Int64) (x4 : Int32) (H : Heap) (locs : List Loc) (ls : Array Slot), lv_has ls 5 [(0, .int x0), (1, .int x1), (2, .long x2), (4, .int x4)] → GW g s σ H locs → M_power2_l5 F x0 x1 x2 x4 = some r → Wg p l e 0 0 s m args below meth c g (some (.int r)) σ H locs (F0 m 5 ls []) := by
    intro F
    induction F with
    | zero => intro x0 x1 x2 x4 H locs ls hl hG h; exact no_some h
    | succ F ih => intro x0 x1 x2 x4 H locs ls hl hG h; exact n5 (fun x0 x1 x2 x4 => M_power2_l5 F x0 x1 x2 x4) ih x0 x1 x2 x4 H locs ls hl hG h
  refine lv_lconst (v := (1 : Int64)) hx hb dX9_power_0 (by decide) ?_
  refine lv_lstore_n (lv' := [(2, .long (1 : Int64)), (0, .int x0), (1, .int x1)]) hx hb dX9_power_1 rfl hl (Nat.le_of_ble_eq_true rfl) rfl (fun ls hl => ?_)
  refine lv_iconst (v := (0 : Int32)) hx hb dX9_power_2 (by decide) ?_
  refine lv_istore (lv' := [(4, .int (0 : Int32)), (2, .long (1 : Int64)), (0, .int x0), (1, .int x1)]) hx hb dX9_power_3 hl (Nat.le_of_ble_eq_true rfl) rfl (fun ls hl => ?_)
  exact l5 FUEL x0 x1 (1 : Int64) (0 : Int32) _ _ _ (lv_sub hl [2, 3, 1, 0] rfl) hG h

set_option maxHeartbeats 4000000 in
set_option maxRecDepth 100000 in
theorem c_M_choose (l : Launch) (g : GC) (σ : St) (x0 : Int32) (x1 : Int32) (r : Int32) (h : M_choose x0 x1 = some r) : Cn l g yX9_choose (Cond.code yX9_choose cX9_choose 6 (some .int) :: wG) 0 0 [.int x0, .int x1] σ (some (.int r)) σ := by
  unfold Cn
  refine Met.ofW (cc := cX9_choose) (maxL := 6) (ret := (some .int)) (by decide) rfl ?_
  intro p e s m args below meth c s₁ B hml hv
  obtain ⟨hargs, hP0, hK⟩ := hv
  have hx := B.exec
  have hb := B.bytes
  have hr := B.returns
  have hts : ∀ w ∈ wG, w.before args s = true := fun w h => atoms_spec (ws := (Cond.code yX9_choose cX9_choose 6 (some .int) :: wG)) B.pre w (List.mem_cons_of_mem _ h)
  have hown : s.vm.findClass RX9 = some m.cls := findClass_of_methodNamed B.named
  have hlocks := B.notSynchronized
  have hw0 := hts _ mw_5_57
  have hw1 := hts _ mw_5_98
  have hf9 : entryFrame m args 6 = _ := (congrArg (fun a => entryFrame m a 6) hargs).trans (lg_entry_eq m [.int x0, .int x1] 6)
  show Wg p l e 0 0 s m args below meth c g (some (.int r)) σ s.heap [] (entryFrame m args 6)
  rw [hf9]
  have hl := lv_entry ([.int x0, .int x1]) (n := 6) (Nat.le_of_ble_eq_true rfl)
  generalize (lg_sl ([.int x0, .int x1]) ++ List.replicate (6 - (lg_sl ([.int x0, .int x1])).length) Slot.unset).toArray = ls at hl ⊢
  have hl : lv_has ls 6 [(0, .int x0), (1, .int x1)] := hl
  have hG : GW g s σ s.heap [] := ⟨hP0, va_S.rf⟩
  unfold M_choose at h
  have n72 : ∀ (t0 : Int32) (H : Heap) (locs : List Loc) (ls : Array Slot), lv_has ls 6 [] → GW g s σ H locs → M_choose_n72 t0 = some r → Wg p l e 0 0 s m args below meth c g (some (.int r)) σ H locs (F0 m 72 ls [.int t0]) := by
    intro t0 H locs ls hl hG h
    unfold M_choose_n72 at h
    cases h
    exact gx_iret hx hb hr hlocks hG dX9_choose_72
  have n57 : ∀ (x2 : Int64) (H : Heap) (locs : List Loc) (ls : Array Slot), lv_has ls 6 [(2, .long x2)] → GW g s σ H locs → M_choose_n57 x2 = some r → Wg p l e 0 0 s m args below meth c g (some (.int r)) σ H locs (F0 m 57 ls []) := by
    intro x2 H locs ls hl hG h
    unfold M_choose_n57 at h
    refine lv_lload_n hx hb dX9_choose_57 rfl (lv_at hl 0 rfl) ?_
    refine lv_ldc2 hx hb hown hw0 dX9_choose_58 ?_
    refine W.lcmp hx hb dX9_choose_61 ?_
    refine lv_if_le (tgt := 70) hx hb dX9_choose_62 (by decide) (fun c1 => ?_) (fun c1 => ?_)
    · have h := ite_t c1 h
      refine lv_lload_n hx hb dX9_choose_70 rfl (lv_at hl 0 rfl) ?_
      refine lv_l2i hx hb dX9_choose_71 rfl ?_
      exact n72 (x2.toInt32) _ _ _ (lv_sub hl [] rfl) hG h
    · have h := ite_f c1 h
      refine lv_bipush (v := (33 : Int32)) hx hb dX9_choose_65 (by decide) ?_
      refine lv_goto (tgt := 72) hx hb dX9_choose_67 (by decide) ?_
      exact n72 (33 : Int32) _ _ _ (lv_sub hl [] rfl) hG h
  have n21 : ∀ (k21 : Int32 → Int64 → Int32 → Int32 → Option (Int32)) (hk21 : ∀ (x0 : Int32) (x2 : Int64) (x4 : Int32) (x5 : Int32) (H : Heap) (locs : List Loc) (ls : Array Slot), lv_has ls 6 [(0, .int x0), (2, .long x2), (4, .int x4), (5, .int x5)] → GW g s σ H locs → k21 x0 x2 x4 x5 = some r → Wg p l e 0 0 s m args below meth c g (some (.int r)) σ H locs (F0 m 21 ls [])) (x0 : Int32) (x2 : Int64) (x4 : Int32) (x5 : Int32) (H : Heap) (locs : List Loc) (ls : Array Slot), lv_has ls 6 [(0, .int x0), (2, .long x2), (4, .int x4), (5, .int x5)] → GW g s σ H locs → M_choose_n21 k21 x0 x2 x4 x5 = some r → Wg p l e 0 0 s m args below meth c g (some (.int r)) σ H locs (F0 m 21 ls []) := by
    intro k21 hk21 x0 x2 x4 x5 H locs ls hl hG h
    unfold M_choose_n21 at h
    refine lv_iload hx hb dX9_choose_21 (lv_at hl 3 rfl) ?_
    refine lv_iload hx hb dX9_choose_23 (lv_at hl 2 rfl) ?_
    refine lv_icmp_gt (tgt := 57) hx hb dX9_choose_25 (by decide) (fun c2 => ?_) (fun c2 => ?_)
    · have h := ite_t c2 h
      exact n57 x2 _ _ _ (lv_sub hl [1] rfl) hG h
    · have h := ite_f c2 h
      refine lv_lload_n hx hb dX9_choose_28 rfl (lv_at hl 1 rfl) ?_
      refine lv_ldc2 hx hb hown hw1 dX9_choose_29 ?_
      refine W.lcmp hx hb dX9_choose_32 ?_
      refine lv_if_gt (tgt := 57) hx hb dX9_choose_33 (by decide) (fun c3 => ?_) (fun c3 => ?_)
      · have h := ite_t c3 h
        exact n57 x2 _ _ _ (lv_sub hl [1] rfl) hG h
      · have h := ite_f c3 h
        refine lv_lload_n hx hb dX9_choose_36 rfl (lv_at hl 1 rfl) ?_
        refine lv_iload_n hx hb dX9_choose_37 rfl (lv_at hl 0 rfl) ?_
        refine lv_iload hx hb dX9_choose_38 (lv_at hl 2 rfl) ?_
        refine lv_isub hx hb dX9_choose_40 ?_
        refine lv_iload hx hb dX9_choose_41 (lv_at hl 3 rfl) ?_
        refine lv_iadd hx hb dX9_choose_43 ?_
        refine lv_i2l hx hb dX9_choose_44 rfl ?_
        refine lv_lmul hx hb dX9_choose_45 ?_
        refine lv_iload hx hb dX9_choose_46 (lv_at hl 3 rfl) ?_
        refine lv_i2l hx hb dX9_choose_48 rfl ?_
        obtain ⟨hg4, h⟩ := gd_some h
        refine lv_ldiv hx hb dX9_choose_49 (nzL_ne hg4) ?_
        refine lv_topl (fun y5 ey5 => ?_)
        have h := lt_at h ey5
        refine lv_lstore_n (lv' := [(2, .long y5), (0, .int x0), (4, .int x4), (5, .int x5)]) hx hb dX9_choose_50 rfl hl (Nat.le_of_ble_eq_true rfl) rfl (fun ls hl => ?_)
        refine lv_iinc (v := (x5 + (1 : Int32))) (lv' := [(5, .int (x5 + (1 : Int32))), (2, .long y5), (0, .int x0), (4, .int x4)]) hx hb dX9_choose_51 hl (k := 3) rfl (congrArg (fun z => x5 + z) (by decide)) (Nat.le_of_ble_eq_true rfl) rfl (fun ls hl => ?_)
        refine lv_goto (tgt := 21) hx hb dX9_choose_54 (by decide) ?_
        exact hk21 x0 y5 x4 (x5 + (1 : Int32)) _ _ _ (lv_sub hl [2, 1, 3, 0] rfl) hG h
  have l21 : ∀  (F : Nat) (x0 : Int32) (x2 : Int64) (x4 : Int32) (x5 : Int32) (H : Heap) (locs : List Loc) (ls : Array Slot), lv_has ls 6 [(0, .int x0), (2, .long x2), (4, .int x4), (5, .int x5)] → GW g s σ H locs → M_choose_l21 F x0 x2 x4 x5 = some r → Wg p l e 0 0 s m args below meth c g (some (.int r)) σ H locs (F0 m 21 ls []) := by
    intro F
    induction F with
    | zero => intro x0 x2 x4 x5 H locs ls hl hG h; exact no_some h
    | succ F ih => intro x0 x2 x4 x5 H locs ls hl hG h; exact n21 (fun x0 x2 x4 x5 => M_choose_l21 F x0 x2 x4 x5) ih x0 x2 x4 x5 H locs ls hl hG h
  have n16 : ∀ (x0 : Int32) (x2 : Int64) (t0 : Int32) (H : Heap) (locs : List Loc) (ls : Array Slot), lv_has ls 6 [(0, .int x0), (2, .long x2)] → GW g s σ H locs → M_choose_n16 x0 x2 t0 = some r → Wg p l e 0 0 s m args below meth c g (some (.int r)) σ H locs (F0 m 16 ls [.int t0]) := by
    intro x0 x2 t0 H locs ls hl hG h
    unfold M_choose_n16 at h
    refine lv_istore (lv' := [(4, .int t0), (0, .int x0), (2, .long x2)]) hx hb dX9_choose_16 hl (Nat.le_of_ble_eq_true rfl) rfl (fun ls hl => ?_)
    refine lv_iconst (v := (1 : Int32)) hx hb dX9_choose_18 (by decide) ?_
    refine lv_istore (lv' := [(5, .int (1 : Int32)), (4, .int t0), (0, .int x0), (2, .long x2)]) hx hb dX9_choose_19 hl (Nat.le_of_ble_eq_true rfl) rfl (fun ls hl => ?_)
    exact l21 FUEL x0 x2 t0 (1 : Int32) _ _ _ (lv_sub hl [2, 3, 1, 0] rfl) hG h
  refine lv_lconst (v := (1 : Int64)) hx hb dX9_choose_0 (by decide) ?_
  refine lv_lstore_n (lv' := [(2, .long (1 : Int64)), (0, .int x0), (1, .int x1)]) hx hb dX9_choose_1 rfl hl (Nat.le_of_ble_eq_true rfl) rfl (fun ls hl => ?_)
  refine lv_iload_n hx hb dX9_choose_2 rfl (lv_at hl 2 rfl) ?_
  refine lv_iload_n hx hb dX9_choose_3 rfl (lv_at hl 1 rfl) ?_
  refine lv_iload_n hx hb dX9_choose_4 rfl (lv_at hl 2 rfl) ?_
  refine lv_isub hx hb dX9_choose_5 ?_
  refine lv_icmp_ge (tgt := 13) hx hb dX9_choose_6 (by decide) (fun c6 => ?_) (fun c6 => ?_)
  · have h := ite_t c6 h
    refine lv_iload_n hx hb dX9_choose_13 rfl (lv_at hl 1 rfl) ?_
    refine lv_iload_n hx hb dX9_choose_14 rfl (lv_at hl 2 rfl) ?_
    refine lv_isub hx hb dX9_choose_15 ?_
    exact n16 x0 (1 : Int64) (x0 - x1) _ _ _ (lv_sub hl [1, 0] rfl) hG h
  · have h := ite_f c6 h
    refine lv_iload_n hx hb dX9_choose_9 rfl (lv_at hl 2 rfl) ?_
    refine lv_goto (tgt := 16) hx hb dX9_choose_10 (by decide) ?_
    exact n16 x0 (1 : Int64) x1 _ _ _ (lv_sub hl [1, 0] rfl) hG h

set_option maxHeartbeats 4000000 in
set_option maxRecDepth 100000 in
theorem c_M_sizeOf (l : Launch) (g : GC) (σ : St) (x0 : Int32) (x1 : Int32) (x2 : Int32) (r : Int64) (h : M_sizeOf x0 x1 x2 = some r) : Cn l g yX9_sizeOf (Cond.code yX9_sizeOf cX9_sizeOf 3 (some .long) :: wG) 1 25 [.int x0, .int x1, .int x2] σ (some (.long r)) σ := by
  unfold Cn
  refine Met.ofW (cc := cX9_sizeOf) (maxL := 3) (ret := (some .long)) (by decide) rfl ?_
  intro p e s m args below meth c s₁ B hml hv
  obtain ⟨hargs, hP0, hK⟩ := hv
  have hx := B.exec
  have hb := B.bytes
  have hr := B.returns
  have hts : ∀ w ∈ wG, w.before args s = true := fun w h => atoms_spec (ws := (Cond.code yX9_sizeOf cX9_sizeOf 3 (some .long) :: wG)) B.pre w (List.mem_cons_of_mem _ h)
  have hown : s.vm.findClass RX9 = some m.cls := findClass_of_methodNamed B.named
  have hlocks := B.notSynchronized
  have hS9 : CallFix p m c cX9_sizeOf 3 s args wG RX9 := ⟨hx, hb, hml, hown, hts⟩
  have hf9 : entryFrame m args 3 = _ := (congrArg (fun a => entryFrame m a 3) hargs).trans (lg_entry_eq m [.int x0, .int x1, .int x2] 3)
  show Wg p l e 1 25 s m args below meth c g (some (.long r)) σ s.heap [] (entryFrame m args 3)
  rw [hf9]
  have hl := lv_entry ([.int x0, .int x1, .int x2]) (n := 3) (Nat.le_of_ble_eq_true rfl)
  generalize (lg_sl ([.int x0, .int x1, .int x2]) ++ List.replicate (3 - (lg_sl ([.int x0, .int x1, .int x2])).length) Slot.unset).toArray = ls at hl ⊢
  have hl : lv_has ls 3 [(0, .int x0), (1, .int x1), (2, .int x2)] := hl
  have hG : GW g s σ s.heap [] := ⟨hP0, va_S.rf⟩
  unfold M_sizeOf at h
  have n43 : ∀ (t0 : Int64) (H : Heap) (locs : List Loc) (ls : Array Slot), lv_has ls 3 [] → GW g s σ H locs → M_sizeOf_n43 t0 = some r → Wg p l e 1 25 s m args below meth c g (some (.long r)) σ H locs (F0 m 43 ls [.long t0]) := by
    intro t0 H locs ls hl hG h
    unfold M_sizeOf_n43 at h
    cases h
    exact gx_lret hx hb hr hlocks hG dX9_sizeOf_43
  refine lv_iload_n hx hb dX9_sizeOf_0 rfl (lv_at hl 0 rfl) ?_
  refine lv_iconst (v := (2 : Int32)) hx hb dX9_sizeOf_1 (by decide) ?_
  refine lv_icmp_ge (tgt := 10) hx hb dX9_sizeOf_2 (by decide) (fun c1 => ?_) (fun c1 => ?_)
  · have h := ite_t c1 h
    refine lv_iload_n hx hb dX9_sizeOf_10 rfl (lv_at hl 0 rfl) ?_
    refine lv_iconst (v := (2 : Int32)) hx hb dX9_sizeOf_11 (by decide) ?_
    refine lv_icmp_ne (tgt := 24) hx hb dX9_sizeOf_12 (by decide) (fun c2 => ?_) (fun c2 => ?_)
    · have h := ite_f c2 h
      refine lv_iload_n hx hb dX9_sizeOf_24 rfl (lv_at hl 0 rfl) ?_
      refine lv_iconst (v := (5 : Int32)) hx hb dX9_sizeOf_25 (by decide) ?_
      refine lv_icmp_ge (tgt := 38) hx hb dX9_sizeOf_26 (by decide) (fun c3 => ?_) (fun c3 => ?_)
      · have h := ite_t c3 h
        refine lv_iload_n hx hb dX9_sizeOf_38 rfl (lv_at hl 1 rfl) ?_
        refine lv_i2l hx hb dX9_sizeOf_39 rfl ?_
        refine lv_iload_n hx hb dX9_sizeOf_40 rfl (lv_at hl 2 rfl) ?_
        refine lv_i2l hx hb dX9_sizeOf_41 rfl ?_
        refine lv_ladd hx hb dX9_sizeOf_42 ?_
        exact n43 ((x1.toInt64) + (x2.toInt64)) _ _ _ (lv_sub hl [] rfl) hG h
      · have h := ite_f c3 h
        refine lv_iload_n hx hb dX9_sizeOf_29 rfl (lv_at hl 1 rfl) ?_
        refine lv_iload_n hx hb dX9_sizeOf_30 rfl (lv_at hl 2 rfl) ?_
        obtain ⟨z4, hc5, h⟩ := bnd_some h
        refine gx_cS (σ' := σ) (r := (some (.int z4))) (rest := []) (As := [.int x1, .int x2]) hS9 (c_M_choose l g σ x1 x2 z4 hc5) rfl (va_cwS 2 hts (gz_S mw_5_95 mw_5_96 mw_1_11 mw_5_97) rfl rfl rfl hdS_X9_choose ⟨Nat.le_of_ble_eq_true rfl, Nat.le_of_ble_eq_true rfl⟩) hK hG rfl hl.1 rfl (Nat.le_of_ble_eq_true rfl) dX9_sizeOf_31 (fun H locs hG => ?_)
        refine W.eq (g2 := F0 m 34 ls [.int z4]) rfl ?_
        refine lv_i2l hx hb dX9_sizeOf_34 rfl ?_
        refine lv_goto (tgt := 43) hx hb dX9_sizeOf_35 (by decide) ?_
        exact n43 (z4.toInt64) _ _ _ (lv_sub hl [] rfl) hG h
    · have h := ite_t c2 h
      refine lv_iload_n hx hb dX9_sizeOf_15 rfl (lv_at hl 1 rfl) ?_
      refine lv_iload_n hx hb dX9_sizeOf_16 rfl (lv_at hl 2 rfl) ?_
      obtain ⟨z6, hc7, h⟩ := bnd_some h
      refine gx_cS (σ' := σ) (r := (some (.int z6))) (rest := []) (As := [.int x1, .int x2]) hS9 (c_M_power2 l g σ x1 x2 z6 hc7) rfl (va_cwS 2 hts (gz_S mw_5_92 mw_5_93 mw_1_11 mw_5_94) rfl rfl rfl hdS_X9_power ⟨Nat.le_of_ble_eq_true rfl, Nat.le_of_ble_eq_true rfl⟩) hK hG rfl hl.1 rfl (Nat.le_of_ble_eq_true rfl) dX9_sizeOf_17 (fun H locs hG => ?_)
      refine W.eq (g2 := F0 m 20 ls [.int z6]) rfl ?_
      refine lv_i2l hx hb dX9_sizeOf_20 rfl ?_
      refine lv_goto (tgt := 43) hx hb dX9_sizeOf_21 (by decide) ?_
      exact n43 (z6.toInt64) _ _ _ (lv_sub hl [] rfl) hG h
  · have h := ite_f c1 h
    refine lv_iload_n hx hb dX9_sizeOf_5 rfl (lv_at hl 1 rfl) ?_
    refine lv_i2l hx hb dX9_sizeOf_6 rfl ?_
    refine lv_goto (tgt := 43) hx hb dX9_sizeOf_7 (by decide) ?_
    exact n43 (x1.toInt64) _ _ _ (lv_sub hl [] rfl) hG h

set_option maxHeartbeats 4000000 in
set_option maxRecDepth 100000 in
theorem c_M_fresh (l : Launch) (g : GC) (σ : St) (x1 : Int32) (w_areKindsFound : Int32) (w_isMeasured : Int32) (w_posts : Int32) (w_road : Nat → Int32) (h : M_fresh x1 (σ.1 3238) (σ.1 3212) (σ.1 3203) (σ.2.2.1 54) = some (w_areKindsFound, w_isMeasured, w_posts, w_road)) : Cn l g yX9_fresh (Cond.code yX9_fresh cX9_fresh 3 none :: wG) 0 0 [.ref (g.2.1 50), .int x1] σ none (mkS σ [(3238, w_areKindsFound), (3212, w_isMeasured), (3203, w_posts)] [] [(54, w_road)] []) := by
  unfold Cn
  refine Met.ofW (cc := cX9_fresh) (maxL := 3) (ret := none) (by decide) rfl ?_
  intro p e s m args below meth c s₁ B hml hv
  obtain ⟨hargs, hP0, hK⟩ := hv
  have hx := B.exec
  have hb := B.bytes
  have hr := B.returns
  have hts : ∀ w ∈ wG, w.before args s = true := fun w h => atoms_spec (ws := (Cond.code yX9_fresh cX9_fresh 3 none :: wG)) B.pre w (List.mem_cons_of_mem _ h)
  have hown : s.vm.findClass RX9 = some m.cls := findClass_of_methodNamed B.named
  have hlocks := B.notSynchronized
  have hw0 := hts _ mw_4_151
  have hw1 := hts _ mw_4_177
  have hw2 := hts _ mw_4_143
  have hw3 := hts _ mw_4_142
  have hf9 : entryFrame m args 3 = _ := (congrArg (fun a => entryFrame m a 3) hargs).trans (lg_entry_eq m [.ref (g.2.1 50), .int x1] 3)
  show Wg p l e 0 0 s m args below meth c g none (mkS σ [(3238, w_areKindsFound), (3212, w_isMeasured), (3203, w_posts)] [] [(54, w_road)] []) s.heap [] (entryFrame m args 3)
  rw [hf9]
  have hl := lv_entry ([.ref (g.2.1 50), .int x1]) (n := 3) (Nat.le_of_ble_eq_true rfl)
  generalize (lg_sl ([.ref (g.2.1 50), .int x1]) ++ List.replicate (3 - (lg_sl ([.ref (g.2.1 50), .int x1])).length) Slot.unset).toArray = ls at hl ⊢
  have hl : lv_has ls 3 [(0, .ref (g.2.1 50)), (1, .int x1)] := hl
  have hG : GW g s σ s.heap [] := ⟨hP0, va_S.rf⟩
  have hG : GW g s (mkS σ [(3238, (σ.1 3238)), (3212, (σ.1 3212)), (3203, (σ.1 3203))] [] [(54, (σ.2.2.1 54))] []) s.heap [] := GW_self [3238, 3212, 3203] [] [54] [] hG
  unfold M_fresh at h
  have n27 : ∀ (v_areKindsFound : Int32) (v_isMeasured : Int32) (v_posts : Int32) (v_road : Nat → Int32) (H : Heap) (locs : List Loc) (ls : Array Slot), lv_has ls 3 [(0, .ref (g.2.1 50))] → GW g s (mkS σ [(3238, v_areKindsFound), (3212, v_isMeasured), (3203, v_posts)] [] [(54, v_road)] []) H locs → M_fresh_n27 v_areKindsFound v_isMeasured v_posts v_road = some (w_areKindsFound, w_isMeasured, w_posts, w_road) → Wg p l e 0 0 s m args below meth c g none (mkS σ [(3238, w_areKindsFound), (3212, w_isMeasured), (3203, w_posts)] [] [(54, w_road)] []) H locs (F0 m 27 ls []) := by
    intro v_areKindsFound v_isMeasured v_posts v_road H locs ls hl hG h
    unfold M_fresh_n27 at h
    refine lv_aload_n hx hb dX9_fresh_27 rfl (lv_at hl 0 rfl) ?_
    refine lv_iconst (v := (0 : Int32)) hx hb dX9_fresh_28 (by decide) ?_
    refine gx_put (σ' := (mkS σ [(3238, v_areKindsFound), (3212, (0 : Int32)), (3203, v_posts)] [] [(54, v_road)] [])) (C := RX9) (T := TX9) (N := 44) hx hb hts mc_X9 tyX9 tyX9_ok nmX9 hown hK hG (ga_50 g _) rfl 12 (by decide) hw0 rfl rfl (isb_n (by decide)) (isb_f (by decide)) (Nat.le_of_ble_eq_true rfl) ((gf_3212 g _ _).trans (congrArg (g_cells g) (mk_a 1 rfl rfl))) dX9_fresh_29 (fun H locs hG => ?_)
    refine lv_aload_n hx hb dX9_fresh_32 rfl (lv_at hl 0 rfl) ?_
    refine lv_iconst (v := (0 : Int32)) hx hb dX9_fresh_33 (by decide) ?_
    refine gx_put (σ' := (mkS σ [(3238, (0 : Int32)), (3212, (0 : Int32)), (3203, v_posts)] [] [(54, v_road)] [])) (C := RX9) (T := TX9) (N := 44) hx hb hts mc_X9 tyX9 tyX9_ok nmX9 hown hK hG (ga_50 g _) rfl 38 (by decide) hw1 rfl rfl (isb_n (by decide)) (isb_f (by decide)) (Nat.le_of_ble_eq_true rfl) ((gf_3238 g _ _).trans (congrArg (g_cells g) (mk_a 0 rfl rfl))) dX9_fresh_34 (fun H locs hG => ?_)
    cases h
    exact gx_vret hx hb hr hlocks hG dX9_fresh_37
  have n7 : ∀ (k7 : Int32 → Int32 → Int32 → Int32 → (Nat → Int32) → Option (Int32 × Int32 × Int32 × (Nat → Int32))) (hk7 : ∀ (x2 : Int32) (v_areKindsFound : Int32) (v_isMeasured : Int32) (v_posts : Int32) (v_road : Nat → Int32) (H : Heap) (locs : List Loc) (ls : Array Slot), lv_has ls 3 [(0, .ref (g.2.1 50)), (2, .int x2)] → GW g s (mkS σ [(3238, v_areKindsFound), (3212, v_isMeasured), (3203, v_posts)] [] [(54, v_road)] []) H locs → k7 x2 v_areKindsFound v_isMeasured v_posts v_road = some (w_areKindsFound, w_isMeasured, w_posts, w_road) → Wg p l e 0 0 s m args below meth c g none (mkS σ [(3238, w_areKindsFound), (3212, w_isMeasured), (3203, w_posts)] [] [(54, w_road)] []) H locs (F0 m 7 ls [])) (x2 : Int32) (v_areKindsFound : Int32) (v_isMeasured : Int32) (v_posts : Int32) (v_road : Nat → Int32) (H : Heap) (locs : List Loc) (ls : Array Slot), lv_has ls 3 [(0, .ref (g.2.1 50)), (2, .int x2)] → GW g s (mkS σ [(3238, v_areKindsFound), (3212, v_isMeasured), (3203, v_posts)] [] [(54, v_road)] []) H locs → M_fresh_n7 k7 x2 v_areKindsFound v_isMeasured v_posts v_road = some (w_areKindsFound, w_isMeasured, w_posts, w_road) → Wg p l e 0 0 s m args below meth c g none (mkS σ [(3238, w_areKindsFound), (3212, w_isMeasured), (3203, w_posts)] [] [(54, w_road)] []) H locs (F0 m 7 ls []) := by
    intro k7 hk7 x2 v_areKindsFound v_isMeasured v_posts v_road H locs ls hl hG h
    unfold M_fresh_n7 at h
    refine lv_iload_n hx hb dX9_fresh_7 rfl (lv_at hl 1 rfl) ?_
    refine lv_sipush (v := (1024 : Int32)) hx hb dX9_fresh_8 (by decide) ?_
    refine lv_icmp_ge (tgt := 27) hx hb dX9_fresh_11 (by decide) (fun c1 => ?_) (fun c1 => ?_)
    · have h := ite_t c1 h
      exact n27 v_areKindsFound v_isMeasured v_posts v_road _ _ _ (lv_sub hl [0] rfl) hG h
    · have h := ite_f c1 h
      refine lv_aload_n hx hb dX9_fresh_14 rfl (lv_at hl 0 rfl) ?_
      refine gx_get (v := .ref (g.2.1 54)) (C := RX9) (T := TX9) (N := 44) hx hb hts mc_X9 hown hK hG (ga_50 g _) rfl 4 (by decide) hw2 rfl rfl dX9_fresh_15 ?_
      refine lv_iload_n hx hb dX9_fresh_18 rfl (lv_at hl 1 rfl) ?_
      refine lv_iconst (v := (0 : Int32)) hx hb dX9_fresh_19 (by decide) ?_
      obtain ⟨hg2, h⟩ := gd_some h
      refine gx_zast (σ' := (mkS σ [(3238, v_areKindsFound), (3212, v_isMeasured), (3203, v_posts)] [] [(54, (upd v_road (x2.toNatClampNeg) (0 : Int32)))] [])) (f := v_road) hx hb hK hG (ga_54 g _) hg2 (by decide) ((gs_54 g _ _).trans (congrArg (g_cells g) (mk_c 0 rfl rfl))) dX9_fresh_20 (fun H locs hG => ?_)
      refine lv_iinc (v := (x2 + (1 : Int32))) (lv' := [(2, .int (x2 + (1 : Int32))), (0, .ref (g.2.1 50))]) hx hb dX9_fresh_21 hl (k := 1) rfl (congrArg (fun z => x2 + z) (by decide)) (Nat.le_of_ble_eq_true rfl) rfl (fun ls hl => ?_)
      refine lv_goto (tgt := 7) hx hb dX9_fresh_24 (by decide) ?_
      exact hk7 (x2 + (1 : Int32)) v_areKindsFound v_isMeasured v_posts (upd v_road (x2.toNatClampNeg) (0 : Int32)) _ _ _ (lv_sub hl [1, 0] rfl) hG h
  have l7 : ∀  (F : Nat) (x2 : Int32) (v_areKindsFound : Int32) (v_isMeasured : Int32) (v_posts : Int32) (v_road : Nat → Int32) (H : Heap) (locs : List Loc) (ls : Array Slot), lv_has ls 3 [(0, .ref (g.2.1 50)), (2, .int x2)] → GW g s (mkS σ [(3238, v_areKindsFound), (3212, v_isMeasured), (3203, v_posts)] [] [(54, v_road)] []) H locs → M_fresh_l7 F x2 v_areKindsFound v_isMeasured v_posts v_road = some (w_areKindsFound, w_isMeasured, w_posts, w_road) → Wg p l e 0 0 s m args below meth c g none (mkS σ [(3238, w_areKindsFound), (3212, w_isMeasured), (3203, w_posts)] [] [(54, w_road)] []) H locs (F0 m 7 ls []) := by
    intro F
    induction F with
    | zero => intro x2 v_areKindsFound v_isMeasured v_posts v_road H locs ls hl hG h; exact no_some h
    | succ F ih => intro x2 v_areKindsFound v_isMeasured v_posts v_road H locs ls hl hG h; exact n7 (fun x2 v_areKindsFound v_isMeasured v_posts v_road => M_fresh_l7 F x2 v_areKindsFound v_isMeasured v_posts v_road) ih x2 v_areKindsFound v_isMeasured v_posts v_road H locs ls hl hG h
  refine lv_aload_n hx hb dX9_fresh_0 rfl (lv_at hl 0 rfl) ?_
  refine lv_iload_n hx hb dX9_fresh_1 rfl (lv_at hl 1 rfl) ?_
  refine gx_put (σ' := (mkS σ [(3238, (σ.1 3238)), (3212, (σ.1 3212)), (3203, x1)] [] [(54, (σ.2.2.1 54))] [])) (C := RX9) (T := TX9) (N := 44) hx hb hts mc_X9 tyX9 tyX9_ok nmX9 hown hK hG (ga_50 g _) rfl 3 (by decide) hw3 rfl rfl rfl rfl (Nat.le_of_ble_eq_true rfl) ((gf_3203 g _ _).trans (congrArg (g_cells g) (mk_a 2 rfl rfl))) dX9_fresh_2 (fun H locs hG => ?_)
  refine lv_iconst (v := (0 : Int32)) hx hb dX9_fresh_5 (by decide) ?_
  refine lv_istore_n (lv' := [(2, .int (0 : Int32)), (0, .ref (g.2.1 50)), (1, .int x1)]) hx hb dX9_fresh_6 rfl hl (Nat.le_of_ble_eq_true rfl) rfl (fun ls hl => ?_)
  exact l7 FUEL (0 : Int32) (σ.1 3238) (σ.1 3212) x1 (σ.2.2.1 54) _ _ _ (lv_sub hl [1, 0] rfl) hG h

set_option maxHeartbeats 4000000 in
set_option maxRecDepth 100000 in
theorem c_M_ones (l : Launch) (g : GC) (σ : St) (x0 : Int32) (r : Int32) (h : M_ones x0 = some r) : Cn l g yX9_ones (Cond.code yX9_ones cX9_ones 3 (some .int) :: wG) 0 0 [.int x0] σ (some (.int r)) σ := by
  unfold Cn
  refine Met.ofW (cc := cX9_ones) (maxL := 3) (ret := (some .int)) (by decide) rfl ?_
  intro p e s m args below meth c s₁ B hml hv
  obtain ⟨hargs, hP0, hK⟩ := hv
  have hx := B.exec
  have hb := B.bytes
  have hr := B.returns
  have hts : ∀ w ∈ wG, w.before args s = true := fun w h => atoms_spec (ws := (Cond.code yX9_ones cX9_ones 3 (some .int) :: wG)) B.pre w (List.mem_cons_of_mem _ h)
  have hown : s.vm.findClass RX9 = some m.cls := findClass_of_methodNamed B.named
  have hlocks := B.notSynchronized
  have hf9 : entryFrame m args 3 = _ := (congrArg (fun a => entryFrame m a 3) hargs).trans (lg_entry_eq m [.int x0] 3)
  show Wg p l e 0 0 s m args below meth c g (some (.int r)) σ s.heap [] (entryFrame m args 3)
  rw [hf9]
  have hl := lv_entry ([.int x0]) (n := 3) (Nat.le_of_ble_eq_true rfl)
  generalize (lg_sl ([.int x0]) ++ List.replicate (3 - (lg_sl ([.int x0])).length) Slot.unset).toArray = ls at hl ⊢
  have hl : lv_has ls 3 [(0, .int x0)] := hl
  have hG : GW g s σ s.heap [] := ⟨hP0, va_S.rf⟩
  unfold M_ones at h
  have n24 : ∀ (x1 : Int32) (H : Heap) (locs : List Loc) (ls : Array Slot), lv_has ls 3 [(1, .int x1)] → GW g s σ H locs → M_ones_n24 x1 = some r → Wg p l e 0 0 s m args below meth c g (some (.int r)) σ H locs (F0 m 24 ls []) := by
    intro x1 H locs ls hl hG h
    unfold M_ones_n24 at h
    refine lv_iload_n hx hb dX9_ones_24 rfl (lv_at hl 0 rfl) ?_
    cases h
    exact gx_iret hx hb hr hlocks hG dX9_ones_25
  have n4 : ∀ (k4 : Int32 → Int32 → Int32 → Option (Int32)) (hk4 : ∀ (x0 : Int32) (x1 : Int32) (x2 : Int32) (H : Heap) (locs : List Loc) (ls : Array Slot), lv_has ls 3 [(0, .int x0), (1, .int x1), (2, .int x2)] → GW g s σ H locs → k4 x0 x1 x2 = some r → Wg p l e 0 0 s m args below meth c g (some (.int r)) σ H locs (F0 m 4 ls [])) (x0 : Int32) (x1 : Int32) (x2 : Int32) (H : Heap) (locs : List Loc) (ls : Array Slot), lv_has ls 3 [(0, .int x0), (1, .int x1), (2, .int x2)] → GW g s σ H locs → M_ones_n4 k4 x0 x1 x2 = some r → Wg p l e 0 0 s m args below meth c g (some (.int r)) σ H locs (F0 m 4 ls []) := by
    intro k4 hk4 x0 x1 x2 H locs ls hl hG h
    unfold M_ones_n4 at h
    refine lv_iload_n hx hb dX9_ones_4 rfl (lv_at hl 2 rfl) ?_
    refine lv_bipush (v := (32 : Int32)) hx hb dX9_ones_5 (by decide) ?_
    refine lv_icmp_ge (tgt := 24) hx hb dX9_ones_7 (by decide) (fun c1 => ?_) (fun c1 => ?_)
    · have h := ite_t c1 h
      exact n24 x1 _ _ _ (lv_sub hl [1] rfl) hG h
    · have h := ite_f c1 h
      refine lv_iload_n hx hb dX9_ones_10 rfl (lv_at hl 1 rfl) ?_
      refine lv_iload_n hx hb dX9_ones_11 rfl (lv_at hl 0 rfl) ?_
      refine lv_iload_n hx hb dX9_ones_12 rfl (lv_at hl 2 rfl) ?_
      refine lv_ishr hx hb dX9_ones_13 ?_
      refine lv_iconst (v := (1 : Int32)) hx hb dX9_ones_14 (by decide) ?_
      refine lv_iand hx hb dX9_ones_15 ?_
      refine lv_iadd hx hb dX9_ones_16 ?_
      refine lv_topi (fun y2 ey2 => ?_)
      have h := lt_at h ey2
      refine lv_istore_n (lv' := [(1, .int y2), (0, .int x0), (2, .int x2)]) hx hb dX9_ones_17 rfl hl (Nat.le_of_ble_eq_true rfl) rfl (fun ls hl => ?_)
      refine lv_iinc (v := (x2 + (1 : Int32))) (lv' := [(2, .int (x2 + (1 : Int32))), (1, .int y2), (0, .int x0)]) hx hb dX9_ones_18 hl (k := 2) rfl (congrArg (fun z => x2 + z) (by decide)) (Nat.le_of_ble_eq_true rfl) rfl (fun ls hl => ?_)
      refine lv_goto (tgt := 4) hx hb dX9_ones_21 (by decide) ?_
      exact hk4 x0 y2 (x2 + (1 : Int32)) _ _ _ (lv_sub hl [2, 1, 0] rfl) hG h
  have l4 : ∀  (F : Nat) (x0 : Int32) (x1 : Int32) (x2 : Int32) (H : Heap) (locs : List Loc) (ls : Array Slot), lv_has ls 3 [(0, .int x0), (1, .int x1), (2, .int x2)] → GW g s σ H locs → M_ones_l4 F x0 x1 x2 = some r → Wg p l e 0 0 s m args below meth c g (some (.int r)) σ H locs (F0 m 4 ls []) := by
    intro F
    induction F with
    | zero => intro x0 x1 x2 H locs ls hl hG h; exact no_some h
    | succ F ih => intro x0 x1 x2 H locs ls hl hG h; exact n4 (fun x0 x1 x2 => M_ones_l4 F x0 x1 x2) ih x0 x1 x2 H locs ls hl hG h
  refine lv_iconst (v := (0 : Int32)) hx hb dX9_ones_0 (by decide) ?_
  refine lv_istore_n (lv' := [(1, .int (0 : Int32)), (0, .int x0)]) hx hb dX9_ones_1 rfl hl (Nat.le_of_ble_eq_true rfl) rfl (fun ls hl => ?_)
  refine lv_iconst (v := (0 : Int32)) hx hb dX9_ones_2 (by decide) ?_
  refine lv_istore_n (lv' := [(2, .int (0 : Int32)), (1, .int (0 : Int32)), (0, .int x0)]) hx hb dX9_ones_3 rfl hl (Nat.le_of_ble_eq_true rfl) rfl (fun ls hl => ?_)
  exact l4 FUEL x0 (0 : Int32) (0 : Int32) _ _ _ (lv_sub hl [2, 1, 0] rfl) hG h

set_option maxHeartbeats 4000000 in
set_option maxRecDepth 100000 in
theorem c_M_unlikeLetters (l : Launch) (g : GC) (σ : St) (x0 : Int32) (x1 : Int32) (x2 : Int32) (x3 : Int32) (r : Int32) (h : M_unlikeLetters x0 x1 x2 x3 = some r) : Cn l g yX9_unlikeLetters (Cond.code yX9_unlikeLetters cX9_unlikeLetters 8 (some .int) :: wG) 0 0 [.int x0, .int x1, .int x2, .int x3] σ (some (.int r)) σ := by
  unfold Cn
  refine Met.ofW (cc := cX9_unlikeLetters) (maxL := 8) (ret := (some .int)) (by decide) rfl ?_
  intro p e s m args below meth c s₁ B hml hv
  obtain ⟨hargs, hP0, hK⟩ := hv
  have hx := B.exec
  have hb := B.bytes
  have hr := B.returns
  have hts : ∀ w ∈ wG, w.before args s = true := fun w h => atoms_spec (ws := (Cond.code yX9_unlikeLetters cX9_unlikeLetters 8 (some .int) :: wG)) B.pre w (List.mem_cons_of_mem _ h)
  have hown : s.vm.findClass RX9 = some m.cls := findClass_of_methodNamed B.named
  have hlocks := B.notSynchronized
  have hf9 : entryFrame m args 8 = _ := (congrArg (fun a => entryFrame m a 8) hargs).trans (lg_entry_eq m [.int x0, .int x1, .int x2, .int x3] 8)
  show Wg p l e 0 0 s m args below meth c g (some (.int r)) σ s.heap [] (entryFrame m args 8)
  rw [hf9]
  have hl := lv_entry ([.int x0, .int x1, .int x2, .int x3]) (n := 8) (Nat.le_of_ble_eq_true rfl)
  generalize (lg_sl ([.int x0, .int x1, .int x2, .int x3]) ++ List.replicate (8 - (lg_sl ([.int x0, .int x1, .int x2, .int x3])).length) Slot.unset).toArray = ls at hl ⊢
  have hl : lv_has ls 8 [(0, .int x0), (1, .int x1), (2, .int x2), (3, .int x3)] := hl
  have hG : GW g s σ s.heap [] := ⟨hP0, va_S.rf⟩
  unfold M_unlikeLetters at h
  have n36 : ∀ (k12 : Int32 → Int32 → Int32 → Int32 → Int32 → Int32 → Option (Int32)) (hk12 : ∀ (x2 : Int32) (x3 : Int32) (x4 : Int32) (x5 : Int32) (x6 : Int32) (x7 : Int32) (H : Heap) (locs : List Loc) (ls : Array Slot), lv_has ls 8 [(2, .int x2), (3, .int x3), (4, .int x4), (5, .int x5), (6, .int x6), (7, .int x7)] → GW g s σ H locs → k12 x2 x3 x4 x5 x6 x7 = some r → Wg p l e 0 0 s m args below meth c g (some (.int r)) σ H locs (F0 m 12 ls [])) (x2 : Int32) (x3 : Int32) (x5 : Int32) (x6 : Int32) (x7 : Int32) (t0 : Int32) (t1 : Int32) (H : Heap) (locs : List Loc) (ls : Array Slot), lv_has ls 8 [(2, .int x2), (3, .int x3), (5, .int x5), (6, .int x6), (7, .int x7)] → GW g s σ H locs → M_unlikeLetters_n36 k12 x2 x3 x5 x6 x7 t0 t1 = some r → Wg p l e 0 0 s m args below meth c g (some (.int r)) σ H locs (F0 m 36 ls [.int t1, .int t0]) := by
    intro k12 hk12 x2 x3 x5 x6 x7 t0 t1 H locs ls hl hG h
    unfold M_unlikeLetters_n36 at h
    refine lv_iadd hx hb dX9_unlikeLetters_36 ?_
    refine lv_istore (lv' := [(4, .int (t0 + t1)), (2, .int x2), (3, .int x3), (5, .int x5), (6, .int x6), (7, .int x7)]) hx hb dX9_unlikeLetters_37 hl (Nat.le_of_ble_eq_true rfl) rfl (fun ls hl => ?_)
    refine lv_iload hx hb dX9_unlikeLetters_39 (lv_at hl 3 rfl) ?_
    refine lv_iload_n hx hb dX9_unlikeLetters_41 rfl (lv_at hl 1 rfl) ?_
    obtain ⟨hg1, h⟩ := gd_some h
    refine lv_idiv hx hb dX9_unlikeLetters_42 (nz_ne hg1) ?_
    refine lv_istore (lv' := [(5, .int (x5 / x2)), (4, .int (t0 + t1)), (2, .int x2), (3, .int x3), (6, .int x6), (7, .int x7)]) hx hb dX9_unlikeLetters_43 hl (Nat.le_of_ble_eq_true rfl) rfl (fun ls hl => ?_)
    refine lv_iload hx hb dX9_unlikeLetters_45 (lv_at hl 4 rfl) ?_
    refine lv_iload_n hx hb dX9_unlikeLetters_47 rfl (lv_at hl 2 rfl) ?_
    refine lv_idiv hx hb dX9_unlikeLetters_48 (nz_ne hg1) ?_
    refine lv_istore (lv' := [(6, .int (x6 / x2)), (5, .int (x5 / x2)), (4, .int (t0 + t1)), (2, .int x2), (3, .int x3), (7, .int x7)]) hx hb dX9_unlikeLetters_49 hl (Nat.le_of_ble_eq_true rfl) rfl (fun ls hl => ?_)
    refine lv_iinc (v := (x7 + (1 : Int32))) (lv' := [(7, .int (x7 + (1 : Int32))), (6, .int (x6 / x2)), (5, .int (x5 / x2)), (4, .int (t0 + t1)), (2, .int x2), (3, .int x3)]) hx hb dX9_unlikeLetters_51 hl (k := 5) rfl (congrArg (fun z => x7 + z) (by decide)) (Nat.le_of_ble_eq_true rfl) rfl (fun ls hl => ?_)
    refine lv_goto (tgt := 12) hx hb dX9_unlikeLetters_54 (by decide) ?_
    exact hk12 x2 x3 (t0 + t1) (x5 / x2) (x6 / x2) (x7 + (1 : Int32)) _ _ _ (lv_sub hl [4, 5, 3, 2, 1, 0] rfl) hG h
  have n57 : ∀ (x4 : Int32) (H : Heap) (locs : List Loc) (ls : Array Slot), lv_has ls 8 [(4, .int x4)] → GW g s σ H locs → M_unlikeLetters_n57 x4 = some r → Wg p l e 0 0 s m args below meth c g (some (.int r)) σ H locs (F0 m 57 ls []) := by
    intro x4 H locs ls hl hG h
    unfold M_unlikeLetters_n57 at h
    refine lv_iload hx hb dX9_unlikeLetters_57 (lv_at hl 0 rfl) ?_
    cases h
    exact gx_iret hx hb hr hlocks hG dX9_unlikeLetters_59
  have n12 : ∀ (k12 : Int32 → Int32 → Int32 → Int32 → Int32 → Int32 → Option (Int32)) (hk12 : ∀ (x2 : Int32) (x3 : Int32) (x4 : Int32) (x5 : Int32) (x6 : Int32) (x7 : Int32) (H : Heap) (locs : List Loc) (ls : Array Slot), lv_has ls 8 [(2, .int x2), (3, .int x3), (4, .int x4), (5, .int x5), (6, .int x6), (7, .int x7)] → GW g s σ H locs → k12 x2 x3 x4 x5 x6 x7 = some r → Wg p l e 0 0 s m args below meth c g (some (.int r)) σ H locs (F0 m 12 ls [])) (x2 : Int32) (x3 : Int32) (x4 : Int32) (x5 : Int32) (x6 : Int32) (x7 : Int32) (H : Heap) (locs : List Loc) (ls : Array Slot), lv_has ls 8 [(2, .int x2), (3, .int x3), (4, .int x4), (5, .int x5), (6, .int x6), (7, .int x7)] → GW g s σ H locs → M_unlikeLetters_n12 k12 x2 x3 x4 x5 x6 x7 = some r → Wg p l e 0 0 s m args below meth c g (some (.int r)) σ H locs (F0 m 12 ls []) := by
    intro k12 hk12 x2 x3 x4 x5 x6 x7 H locs ls hl hG h
    unfold M_unlikeLetters_n12 at h
    refine lv_iload hx hb dX9_unlikeLetters_12 (lv_at hl 5 rfl) ?_
    refine lv_iload_n hx hb dX9_unlikeLetters_14 rfl (lv_at hl 1 rfl) ?_
    refine lv_icmp_ge (tgt := 57) hx hb dX9_unlikeLetters_15 (by decide) (fun c2 => ?_) (fun c2 => ?_)
    · have h := ite_t c2 h
      exact n57 x4 _ _ _ (lv_sub hl [2] rfl) hG h
    · have h := ite_f c2 h
      refine lv_iload hx hb dX9_unlikeLetters_18 (lv_at hl 2 rfl) ?_
      refine lv_iload hx hb dX9_unlikeLetters_20 (lv_at hl 3 rfl) ?_
      refine lv_iload_n hx hb dX9_unlikeLetters_22 rfl (lv_at hl 0 rfl) ?_
      obtain ⟨hg3, h⟩ := gd_some h
      refine lv_irem hx hb dX9_unlikeLetters_23 (nz_ne hg3) ?_
      refine lv_iload hx hb dX9_unlikeLetters_24 (lv_at hl 4 rfl) ?_
      refine lv_iload_n hx hb dX9_unlikeLetters_26 rfl (lv_at hl 0 rfl) ?_
      refine lv_irem hx hb dX9_unlikeLetters_27 (nz_ne hg3) ?_
      refine lv_icmp_eq (tgt := 35) hx hb dX9_unlikeLetters_28 (by decide) (fun c4 => ?_) (fun c4 => ?_)
      · have h := ite_t c4 h
        refine lv_iconst (v := (0 : Int32)) hx hb dX9_unlikeLetters_35 (by decide) ?_
        exact n36 k12 hk12 x2 x3 x5 x6 x7 x4 (0 : Int32) _ _ _ (lv_sub hl [0, 1, 3, 4, 5] rfl) hG h
      · have h := ite_f c4 h
        refine lv_iconst (v := (1 : Int32)) hx hb dX9_unlikeLetters_31 (by decide) ?_
        refine lv_goto (tgt := 36) hx hb dX9_unlikeLetters_32 (by decide) ?_
        exact n36 k12 hk12 x2 x3 x5 x6 x7 x4 (1 : Int32) _ _ _ (lv_sub hl [0, 1, 3, 4, 5] rfl) hG h
  have l12 : ∀  (F : Nat) (x2 : Int32) (x3 : Int32) (x4 : Int32) (x5 : Int32) (x6 : Int32) (x7 : Int32) (H : Heap) (locs : List Loc) (ls : Array Slot), lv_has ls 8 [(2, .int x2), (3, .int x3), (4, .int x4), (5, .int x5), (6, .int x6), (7, .int x7)] → GW g s σ H locs → M_unlikeLetters_l12 F x2 x3 x4 x5 x6 x7 = some r → Wg p l e 0 0 s m args below meth c g (some (.int r)) σ H locs (F0 m 12 ls []) := by
    intro F
    induction F with
    | zero => intro x2 x3 x4 x5 x6 x7 H locs ls hl hG h; exact no_some h
    | succ F ih => intro x2 x3 x4 x5 x6 x7 H locs ls hl hG h; exact n12 (fun x2 x3 x4 x5 x6 x7 => M_unlikeLetters_l12 F x2 x3 x4 x5 x6 x7) ih x2 x3 x4 x5 x6 x7 H locs ls hl hG h
  refine lv_iconst (v := (0 : Int32)) hx hb dX9_unlikeLetters_0 (by decide) ?_
  refine lv_istore (lv' := [(4, .int (0 : Int32)), (0, .int x0), (1, .int x1), (2, .int x2), (3, .int x3)]) hx hb dX9_unlikeLetters_1 hl (Nat.le_of_ble_eq_true rfl) rfl (fun ls hl => ?_)
  refine lv_iload_n hx hb dX9_unlikeLetters_3 rfl (lv_at hl 1 rfl) ?_
  refine lv_istore (lv' := [(5, .int x0), (4, .int (0 : Int32)), (0, .int x0), (1, .int x1), (2, .int x2), (3, .int x3)]) hx hb dX9_unlikeLetters_4 hl (Nat.le_of_ble_eq_true rfl) rfl (fun ls hl => ?_)
  refine lv_iload_n hx hb dX9_unlikeLetters_6 rfl (lv_at hl 3 rfl) ?_
  refine lv_istore (lv' := [(6, .int x1), (5, .int x0), (4, .int (0 : Int32)), (0, .int x0), (1, .int x1), (2, .int x2), (3, .int x3)]) hx hb dX9_unlikeLetters_7 hl (Nat.le_of_ble_eq_true rfl) rfl (fun ls hl => ?_)
  refine lv_iconst (v := (0 : Int32)) hx hb dX9_unlikeLetters_9 (by decide) ?_
  refine lv_istore (lv' := [(7, .int (0 : Int32)), (6, .int x1), (5, .int x0), (4, .int (0 : Int32)), (0, .int x0), (1, .int x1), (2, .int x2), (3, .int x3)]) hx hb dX9_unlikeLetters_10 hl (Nat.le_of_ble_eq_true rfl) rfl (fun ls hl => ?_)
  exact l12 FUEL x2 x3 (0 : Int32) x0 x1 (0 : Int32) _ _ _ (lv_sub hl [6, 7, 3, 2, 1, 0] rfl) hG h

set_option maxHeartbeats 4000000 in
set_option maxRecDepth 100000 in
theorem c_M_isMade (l : Launch) (g : GC) (σ : St) (x1 : Int32) (x2 : Int32) (x3 : Int32) (x4 : Int32) (x5 : Int32) (r : Int32) (h : M_isMade x1 x2 x3 x4 x5 (σ.2.2.1 58) = some r) : Cn l g yX9_isMade (Cond.code yX9_isMade cX9_isMade 6 (some .boolean) :: wG) 1 27 [.ref (g.2.1 50), .int x1, .int x2, .int x3, .int x4, .int x5] σ (some (.int r)) σ := by
  unfold Cn
  refine Met.ofW (cc := cX9_isMade) (maxL := 6) (ret := (some .boolean)) (by decide) rfl ?_
  intro p e s m args below meth c s₁ B hml hv
  obtain ⟨hargs, hP0, hK⟩ := hv
  have hx := B.exec
  have hb := B.bytes
  have hr := B.returns
  have hts : ∀ w ∈ wG, w.before args s = true := fun w h => atoms_spec (ws := (Cond.code yX9_isMade cX9_isMade 6 (some .boolean) :: wG)) B.pre w (List.mem_cons_of_mem _ h)
  have hown : s.vm.findClass RX9 = some m.cls := findClass_of_methodNamed B.named
  have hlocks := B.notSynchronized
  have hS9 : CallFix p m c cX9_isMade 6 s args wG RX9 := ⟨hx, hb, hml, hown, hts⟩
  have hw0 := hts _ mw_4_150
  have hf9 : entryFrame m args 6 = _ := (congrArg (fun a => entryFrame m a 6) hargs).trans (lg_entry_eq m [.ref (g.2.1 50), .int x1, .int x2, .int x3, .int x4, .int x5] 6)
  show Wg p l e 1 27 s m args below meth c g (some (.int r)) σ s.heap [] (entryFrame m args 6)
  rw [hf9]
  have hl := lv_entry ([.ref (g.2.1 50), .int x1, .int x2, .int x3, .int x4, .int x5]) (n := 6) (Nat.le_of_ble_eq_true rfl)
  generalize (lg_sl ([.ref (g.2.1 50), .int x1, .int x2, .int x3, .int x4, .int x5]) ++ List.replicate (6 - (lg_sl ([.ref (g.2.1 50), .int x1, .int x2, .int x3, .int x4, .int x5])).length) Slot.unset).toArray = ls at hl ⊢
  have hl : lv_has ls 6 [(0, .ref (g.2.1 50)), (1, .int x1), (2, .int x2), (3, .int x3), (4, .int x4), (5, .int x5)] := hl
  have hG : GW g s σ s.heap [] := ⟨hP0, va_S.rf⟩
  unfold M_isMade at h
  have n63 : ∀ (t0 : Int32) (H : Heap) (locs : List Loc) (ls : Array Slot), lv_has ls 6 [] → GW g s σ H locs → M_isMade_n63 t0 = some r → Wg p l e 1 27 s m args below meth c g (some (.int r)) σ H locs (F0 m 63 ls [.int t0]) := by
    intro t0 H locs ls hl hG h
    unfold M_isMade_n63 at h
    obtain ⟨hg1, h⟩ := gd_some h
    cases h
    exact gx_zret hx hb hr hlocks hg1 hG dX9_isMade_63
  have n58 : ∀  (H : Heap) (locs : List Loc) (ls : Array Slot), lv_has ls 6 [] → GW g s σ H locs → M_isMade_n58 = some r → Wg p l e 1 27 s m args below meth c g (some (.int r)) σ H locs (F0 m 58 ls []) := by
    intro H locs ls hl hG h
    unfold M_isMade_n58 at h
    refine lv_iconst (v := (1 : Int32)) hx hb dX9_isMade_58 (by decide) ?_
    refine lv_goto (tgt := 63) hx hb dX9_isMade_59 (by decide) ?_
    exact n63 (1 : Int32) _ _ _ (lv_sub hl [] rfl) hG h
  have n84 : ∀ (t0 : Int32) (H : Heap) (locs : List Loc) (ls : Array Slot), lv_has ls 6 [] → GW g s σ H locs → M_isMade_n84 t0 = some r → Wg p l e 1 27 s m args below meth c g (some (.int r)) σ H locs (F0 m 84 ls [.int t0]) := by
    intro t0 H locs ls hl hG h
    unfold M_isMade_n84 at h
    obtain ⟨hg2, h⟩ := gd_some h
    cases h
    exact gx_zret hx hb hr hlocks hg2 hG dX9_isMade_84
  have n114 : ∀ (t0 : Int32) (H : Heap) (locs : List Loc) (ls : Array Slot), lv_has ls 6 [] → GW g s σ H locs → M_isMade_n114 t0 = some r → Wg p l e 1 27 s m args below meth c g (some (.int r)) σ H locs (F0 m 114 ls [.int t0]) := by
    intro t0 H locs ls hl hG h
    unfold M_isMade_n114 at h
    obtain ⟨hg3, h⟩ := gd_some h
    cases h
    exact gx_zret hx hb hr hlocks hg3 hG dX9_isMade_114
  have n138 : ∀ (t0 : Int32) (H : Heap) (locs : List Loc) (ls : Array Slot), lv_has ls 6 [] → GW g s σ H locs → M_isMade_n138 t0 = some r → Wg p l e 1 27 s m args below meth c g (some (.int r)) σ H locs (F0 m 138 ls [.int t0]) := by
    intro t0 H locs ls hl hG h
    unfold M_isMade_n138 at h
    obtain ⟨hg4, h⟩ := gd_some h
    cases h
    exact gx_zret hx hb hr hlocks hg4 hG dX9_isMade_138
  have n169 : ∀ (t0 : Int32) (H : Heap) (locs : List Loc) (ls : Array Slot), lv_has ls 6 [] → GW g s σ H locs → M_isMade_n169 t0 = some r → Wg p l e 1 27 s m args below meth c g (some (.int r)) σ H locs (F0 m 169 ls [.int t0]) := by
    intro t0 H locs ls hl hG h
    unfold M_isMade_n169 at h
    obtain ⟨hg5, h⟩ := gd_some h
    cases h
    exact gx_zret hx hb hr hlocks hg5 hG dX9_isMade_169
  have n161 : ∀ (t0 : Int32) (t1 : Int32) (H : Heap) (locs : List Loc) (ls : Array Slot), lv_has ls 6 [] → GW g s σ H locs → M_isMade_n161 t0 t1 = some r → Wg p l e 1 27 s m args below meth c g (some (.int r)) σ H locs (F0 m 161 ls [.int t1, .int t0]) := by
    intro t0 t1 H locs ls hl hG h
    unfold M_isMade_n161 at h
    refine lv_icmp_eq (tgt := 168) hx hb dX9_isMade_161 (by decide) (fun c6 => ?_) (fun c6 => ?_)
    · have h := ite_t c6 h
      refine lv_iconst (v := (0 : Int32)) hx hb dX9_isMade_168 (by decide) ?_
      exact n169 (0 : Int32) _ _ _ (lv_sub hl [] rfl) hG h
    · have h := ite_f c6 h
      refine lv_iconst (v := (1 : Int32)) hx hb dX9_isMade_164 (by decide) ?_
      refine lv_goto (tgt := 169) hx hb dX9_isMade_165 (by decide) ?_
      exact n169 (1 : Int32) _ _ _ (lv_sub hl [] rfl) hG h
  have n150 : ∀ (x2 : Int32) (x5 : Int32) (t0 : Int32) (H : Heap) (locs : List Loc) (ls : Array Slot), lv_has ls 6 [(2, .int x2), (5, .int x5)] → GW g s σ H locs → M_isMade_n150 x2 x5 t0 = some r → Wg p l e 1 27 s m args below meth c g (some (.int r)) σ H locs (F0 m 150 ls [.int t0]) := by
    intro x2 x5 t0 H locs ls hl hG h
    unfold M_isMade_n150 at h
    refine lv_iload hx hb dX9_isMade_150 (lv_at hl 1 rfl) ?_
    refine lv_iload_n hx hb dX9_isMade_152 rfl (lv_at hl 0 rfl) ?_
    refine lv_icmp_ge (tgt := 160) hx hb dX9_isMade_153 (by decide) (fun c7 => ?_) (fun c7 => ?_)
    · have h := ite_t c7 h
      refine lv_iconst (v := (0 : Int32)) hx hb dX9_isMade_160 (by decide) ?_
      exact n161 t0 (0 : Int32) _ _ _ (lv_sub hl [] rfl) hG h
    · have h := ite_f c7 h
      refine lv_iconst (v := (1 : Int32)) hx hb dX9_isMade_156 (by decide) ?_
      refine lv_goto (tgt := 161) hx hb dX9_isMade_157 (by decide) ?_
      exact n161 t0 (1 : Int32) _ _ _ (lv_sub hl [] rfl) hG h
  refine lv_iload_n hx hb dX9_isMade_0 rfl (lv_at hl 1 rfl) ?_
  by_cases c8 : x1 = (0 : Int32)
  · have h := ite_t c8 h
    refine lv_tableIn (off := 35) (tgt := 36) hx hb dX9_isMade_1 (by rw [c8]; decide) (by rw [c8]; decide) (by rw [c8]; rfl) (by decide) ?_
    refine lv_iload hx hb dX9_isMade_36 (lv_at hl 4 rfl) ?_
    refine lv_iconst (v := (1 : Int32)) hx hb dX9_isMade_38 (by decide) ?_
    refine lv_iadd hx hb dX9_isMade_39 ?_
    refine lv_iload_n hx hb dX9_isMade_40 rfl (lv_at hl 2 rfl) ?_
    obtain ⟨hg9, h⟩ := gd_some h
    refine lv_irem hx hb dX9_isMade_41 (nz_ne hg9) ?_
    refine lv_iload hx hb dX9_isMade_42 (lv_at hl 5 rfl) ?_
    refine lv_icmp_eq (tgt := 58) hx hb dX9_isMade_44 (by decide) (fun c10 => ?_) (fun c10 => ?_)
    · have h := ite_t c10 h
      exact n58 _ _ _ (lv_sub hl [] rfl) hG h
    · have h := ite_f c10 h
      refine lv_iload hx hb dX9_isMade_47 (lv_at hl 5 rfl) ?_
      refine lv_iconst (v := (1 : Int32)) hx hb dX9_isMade_49 (by decide) ?_
      refine lv_iadd hx hb dX9_isMade_50 ?_
      refine lv_iload_n hx hb dX9_isMade_51 rfl (lv_at hl 2 rfl) ?_
      refine lv_irem hx hb dX9_isMade_52 (nz_ne hg9) ?_
      refine lv_iload hx hb dX9_isMade_53 (lv_at hl 4 rfl) ?_
      refine lv_icmp_ne (tgt := 62) hx hb dX9_isMade_55 (by decide) (fun c11 => ?_) (fun c11 => ?_)
      · have h := ite_f c11 h
        refine lv_iconst (v := (0 : Int32)) hx hb dX9_isMade_62 (by decide) ?_
        exact n63 (0 : Int32) _ _ _ (lv_sub hl [] rfl) hG h
      · have h := ite_t c11 h
        exact n58 _ _ _ (lv_sub hl [] rfl) hG h
  · have h := ite_f c8 h
    by_cases c12 : x1 = (1 : Int32)
    · have h := ite_t c12 h
      refine lv_tableIn (off := 63) (tgt := 64) hx hb dX9_isMade_1 (by rw [c12]; decide) (by rw [c12]; decide) (by rw [c12]; rfl) (by decide) ?_
      refine lv_iconst (v := (1 : Int32)) hx hb dX9_isMade_64 (by decide) ?_
      cases h
      exact gx_zret hx hb hr hlocks (by decide) hG dX9_isMade_65
    · have h := ite_f c12 h
      by_cases c13 : x1 = (2 : Int32)
      · have h := ite_t c13 h
        refine lv_tableIn (off := 65) (tgt := 66) hx hb dX9_isMade_1 (by rw [c13]; decide) (by rw [c13]; decide) (by rw [c13]; rfl) (by decide) ?_
        refine lv_iload hx hb dX9_isMade_66 (lv_at hl 4 rfl) ?_
        refine lv_iload hx hb dX9_isMade_68 (lv_at hl 5 rfl) ?_
        refine lv_iload_n hx hb dX9_isMade_70 rfl (lv_at hl 2 rfl) ?_
        refine lv_iload_n hx hb dX9_isMade_71 rfl (lv_at hl 3 rfl) ?_
        obtain ⟨z14, hc15, h⟩ := bnd_some h
        refine gx_cS (σ' := σ) (r := (some (.int z14))) (rest := []) (As := [.int x4, .int x5, .int x2, .int x3]) hS9 (c_M_unlikeLetters l g σ x4 x5 x2 x3 z14 hc15) rfl (va_cwS 4 hts (gz_S mw_5_107 mw_5_108 mw_1_11 mw_5_109) rfl rfl rfl hdS_X9_unlikeLetters ⟨Nat.le_of_ble_eq_true rfl, Nat.le_of_ble_eq_true rfl⟩) hK hG rfl hl.1 rfl (Nat.le_of_ble_eq_true rfl) dX9_isMade_72 (fun H locs hG => ?_)
        refine W.eq (g2 := F0 m 75 ls [.int z14]) rfl ?_
        refine lv_iconst (v := (1 : Int32)) hx hb dX9_isMade_75 (by decide) ?_
        refine lv_icmp_ne (tgt := 83) hx hb dX9_isMade_76 (by decide) (fun c16 => ?_) (fun c16 => ?_)
        · have h := ite_f c16 h
          refine lv_iconst (v := (0 : Int32)) hx hb dX9_isMade_83 (by decide) ?_
          exact n84 (0 : Int32) _ _ _ (lv_sub hl [] rfl) hG h
        · have h := ite_t c16 h
          refine lv_iconst (v := (1 : Int32)) hx hb dX9_isMade_79 (by decide) ?_
          refine lv_goto (tgt := 84) hx hb dX9_isMade_80 (by decide) ?_
          exact n84 (1 : Int32) _ _ _ (lv_sub hl [] rfl) hG h
      · have h := ite_f c13 h
        by_cases c17 : x1 = (3 : Int32)
        · have h := ite_t c17 h
          refine lv_tableIn (off := 84) (tgt := 85) hx hb dX9_isMade_1 (by rw [c17]; decide) (by rw [c17]; decide) (by rw [c17]; rfl) (by decide) ?_
          refine lv_aload_n hx hb dX9_isMade_85 rfl (lv_at hl 0 rfl) ?_
          refine gx_get (v := .ref (g.2.1 58)) (C := RX9) (T := TX9) (N := 44) hx hb hts mc_X9 hown hK hG (ga_50 g _) rfl 11 (by decide) hw0 rfl rfl dX9_isMade_86 ?_
          refine lv_iload hx hb dX9_isMade_89 (lv_at hl 4 rfl) ?_
          obtain ⟨hg18, h⟩ := gd_some h
          refine gx_iald (f := (σ.2.2.1 58)) hx hb hK hG (ga_58 g _) hg18 dX9_isMade_91 ?_
          refine lv_aload_n hx hb dX9_isMade_92 rfl (lv_at hl 0 rfl) ?_
          refine gx_get (v := .ref (g.2.1 58)) (C := RX9) (T := TX9) (N := 44) hx hb hts mc_X9 hown hK hG (ga_50 g _) rfl 11 (by decide) hw0 rfl rfl dX9_isMade_93 ?_
          refine lv_iload hx hb dX9_isMade_96 (lv_at hl 5 rfl) ?_
          obtain ⟨hg19, h⟩ := gd_some h
          refine gx_iald (f := (σ.2.2.1 58)) hx hb hK hG (ga_58 g _) hg19 dX9_isMade_98 ?_
          refine lv_iand hx hb dX9_isMade_99 ?_
          obtain ⟨z20, hc21, h⟩ := bnd_some h
          refine gx_cS (σ' := σ) (r := (some (.int z20))) (rest := []) (As := [.int (((σ.2.2.1 58) (x4.toNatClampNeg)) &&& ((σ.2.2.1 58) (x5.toNatClampNeg)))]) hS9 (c_M_ones l g σ (((σ.2.2.1 58) (x4.toNatClampNeg)) &&& ((σ.2.2.1 58) (x5.toNatClampNeg))) z20 hc21) rfl (va_cwS 1 hts (gz_S mw_5_110 mw_5_111 mw_1_11 mw_5_112) rfl rfl rfl hdS_X9_ones ⟨Nat.le_of_ble_eq_true rfl, Nat.le_of_ble_eq_true rfl⟩) hK hG rfl hl.1 rfl (Nat.le_of_ble_eq_true rfl) dX9_isMade_100 (fun H locs hG => ?_)
          refine W.eq (g2 := F0 m 103 ls [.int z20]) rfl ?_
          refine lv_iload_n hx hb dX9_isMade_103 rfl (lv_at hl 3 rfl) ?_
          refine lv_iconst (v := (1 : Int32)) hx hb dX9_isMade_104 (by decide) ?_
          refine lv_isub hx hb dX9_isMade_105 ?_
          refine lv_icmp_ne (tgt := 113) hx hb dX9_isMade_106 (by decide) (fun c22 => ?_) (fun c22 => ?_)
          · have h := ite_f c22 h
            refine lv_iconst (v := (0 : Int32)) hx hb dX9_isMade_113 (by decide) ?_
            exact n114 (0 : Int32) _ _ _ (lv_sub hl [] rfl) hG h
          · have h := ite_t c22 h
            refine lv_iconst (v := (1 : Int32)) hx hb dX9_isMade_109 (by decide) ?_
            refine lv_goto (tgt := 114) hx hb dX9_isMade_110 (by decide) ?_
            exact n114 (1 : Int32) _ _ _ (lv_sub hl [] rfl) hG h
        · have h := ite_f c17 h
          by_cases c23 : x1 = (4 : Int32)
          · have h := ite_t c23 h
            refine lv_tableIn (off := 114) (tgt := 115) hx hb dX9_isMade_1 (by rw [c23]; decide) (by rw [c23]; decide) (by rw [c23]; rfl) (by decide) ?_
            refine lv_aload_n hx hb dX9_isMade_115 rfl (lv_at hl 0 rfl) ?_
            refine gx_get (v := .ref (g.2.1 58)) (C := RX9) (T := TX9) (N := 44) hx hb hts mc_X9 hown hK hG (ga_50 g _) rfl 11 (by decide) hw0 rfl rfl dX9_isMade_116 ?_
            refine lv_iload hx hb dX9_isMade_119 (lv_at hl 4 rfl) ?_
            obtain ⟨hg24, h⟩ := gd_some h
            refine gx_iald (f := (σ.2.2.1 58)) hx hb hK hG (ga_58 g _) hg24 dX9_isMade_121 ?_
            refine lv_aload_n hx hb dX9_isMade_122 rfl (lv_at hl 0 rfl) ?_
            refine gx_get (v := .ref (g.2.1 58)) (C := RX9) (T := TX9) (N := 44) hx hb hts mc_X9 hown hK hG (ga_50 g _) rfl 11 (by decide) hw0 rfl rfl dX9_isMade_123 ?_
            refine lv_iload hx hb dX9_isMade_126 (lv_at hl 5 rfl) ?_
            obtain ⟨hg25, h⟩ := gd_some h
            refine gx_iald (f := (σ.2.2.1 58)) hx hb hK hG (ga_58 g _) hg25 dX9_isMade_128 ?_
            refine lv_iand hx hb dX9_isMade_129 ?_
            refine lv_if_ne (tgt := 137) hx hb dX9_isMade_130 (by decide) (fun c26 => ?_) (fun c26 => ?_)
            · have h := ite_f c26 h
              refine lv_iconst (v := (0 : Int32)) hx hb dX9_isMade_137 (by decide) ?_
              exact n138 (0 : Int32) _ _ _ (lv_sub hl [] rfl) hG h
            · have h := ite_t c26 h
              refine lv_iconst (v := (1 : Int32)) hx hb dX9_isMade_133 (by decide) ?_
              refine lv_goto (tgt := 138) hx hb dX9_isMade_134 (by decide) ?_
              exact n138 (1 : Int32) _ _ _ (lv_sub hl [] rfl) hG h
          · have h := ite_f c23 h
            refine lv_tableOut (tgt := 139) hx hb dX9_isMade_1 (sw_out (fun q h1 h2 => ?_)) (by decide) ?_
            · rcases (show q = 0 ∨ q = 1 ∨ q = 2 ∨ q = 3 ∨ q = 4 by omega) with rfl | rfl | rfl | rfl | rfl
              · exact lv_neT c8 (by decide)
              · exact lv_neT c12 (by decide)
              · exact lv_neT c13 (by decide)
              · exact lv_neT c17 (by decide)
              · exact lv_neT c23 (by decide)
            refine lv_iload hx hb dX9_isMade_139 (lv_at hl 4 rfl) ?_
            refine lv_iload_n hx hb dX9_isMade_141 rfl (lv_at hl 2 rfl) ?_
            refine lv_icmp_ge (tgt := 149) hx hb dX9_isMade_142 (by decide) (fun c27 => ?_) (fun c27 => ?_)
            · have h := ite_t c27 h
              refine lv_iconst (v := (0 : Int32)) hx hb dX9_isMade_149 (by decide) ?_
              exact n150 x2 x5 (0 : Int32) _ _ _ (lv_sub hl [2, 5] rfl) hG h
            · have h := ite_f c27 h
              refine lv_iconst (v := (1 : Int32)) hx hb dX9_isMade_145 (by decide) ?_
              refine lv_goto (tgt := 150) hx hb dX9_isMade_146 (by decide) ?_
              exact n150 x2 x5 (1 : Int32) _ _ _ (lv_sub hl [2, 5] rfl) hG h

set_option maxHeartbeats 4000000 in
set_option maxRecDepth 100000 in
theorem c_M_lay (l : Launch) (g : GC) (σ : St) (x1 : Int32) (x2 : Int32) (x3 : Int32) (r : Int32) (w_areKindsFound : Int32) (w_isMeasured : Int32) (w_road : Nat → Int32) (h : M_lay x1 x2 x3 (σ.1 3238) (σ.1 3212) (σ.2.2.1 54) = some (r, w_areKindsFound, w_isMeasured, w_road)) : Cn l g yX9_lay (Cond.code yX9_lay cX9_lay 5 (some .boolean) :: wG) 0 0 [.ref (g.2.1 50), .int x1, .int x2, .int x3] σ (some (.int r)) (mkS σ [(3238, w_areKindsFound), (3212, w_isMeasured)] [] [(54, w_road)] []) := by
  unfold Cn
  refine Met.ofW (cc := cX9_lay) (maxL := 5) (ret := (some .boolean)) (by decide) rfl ?_
  intro p e s m args below meth c s₁ B hml hv
  obtain ⟨hargs, hP0, hK⟩ := hv
  have hx := B.exec
  have hb := B.bytes
  have hr := B.returns
  have hts : ∀ w ∈ wG, w.before args s = true := fun w h => atoms_spec (ws := (Cond.code yX9_lay cX9_lay 5 (some .boolean) :: wG)) B.pre w (List.mem_cons_of_mem _ h)
  have hown : s.vm.findClass RX9 = some m.cls := findClass_of_methodNamed B.named
  have hlocks := B.notSynchronized
  have hw0 := hts _ mw_4_143
  have hw1 := hts _ mw_4_151
  have hw2 := hts _ mw_4_177
  have hf9 : entryFrame m args 5 = _ := (congrArg (fun a => entryFrame m a 5) hargs).trans (lg_entry_eq m [.ref (g.2.1 50), .int x1, .int x2, .int x3] 5)
  show Wg p l e 0 0 s m args below meth c g (some (.int r)) (mkS σ [(3238, w_areKindsFound), (3212, w_isMeasured)] [] [(54, w_road)] []) s.heap [] (entryFrame m args 5)
  rw [hf9]
  have hl := lv_entry ([.ref (g.2.1 50), .int x1, .int x2, .int x3]) (n := 5) (Nat.le_of_ble_eq_true rfl)
  generalize (lg_sl ([.ref (g.2.1 50), .int x1, .int x2, .int x3]) ++ List.replicate (5 - (lg_sl ([.ref (g.2.1 50), .int x1, .int x2, .int x3])).length) Slot.unset).toArray = ls at hl ⊢
  have hl : lv_has ls 5 [(0, .ref (g.2.1 50)), (1, .int x1), (2, .int x2), (3, .int x3)] := hl
  have hG : GW g s σ s.heap [] := ⟨hP0, va_S.rf⟩
  have hG : GW g s (mkS σ [(3238, (σ.1 3238)), (3212, (σ.1 3212))] [] [(54, (σ.2.2.1 54))] []) s.heap [] := GW_self [3238, 3212] [] [54] [] hG
  unfold M_lay at h
  have n20 : ∀ (x1 : Int32) (x2 : Int32) (x3 : Int32) (t0 : Int32) (v_areKindsFound : Int32) (v_isMeasured : Int32) (v_road : Nat → Int32) (H : Heap) (locs : List Loc) (ls : Array Slot), lv_has ls 5 [(0, .ref (g.2.1 50)), (1, .int x1), (2, .int x2), (3, .int x3)] → GW g s (mkS σ [(3238, v_areKindsFound), (3212, v_isMeasured)] [] [(54, v_road)] []) H locs → M_lay_n20 x1 x2 x3 t0 v_areKindsFound v_isMeasured v_road = some (r, w_areKindsFound, w_isMeasured, w_road) → Wg p l e 0 0 s m args below meth c g (some (.int r)) (mkS σ [(3238, w_areKindsFound), (3212, w_isMeasured)] [] [(54, w_road)] []) H locs (F0 m 20 ls [.int t0]) := by
    intro x1 x2 x3 t0 v_areKindsFound v_isMeasured v_road H locs ls hl hG h
    unfold M_lay_n20 at h
    refine lv_istore (lv' := [(4, .int t0), (0, .ref (g.2.1 50)), (1, .int x1), (2, .int x2), (3, .int x3)]) hx hb dX9_lay_20 hl (Nat.le_of_ble_eq_true rfl) rfl (fun ls hl => ?_)
    refine lv_aload_n hx hb dX9_lay_22 rfl (lv_at hl 1 rfl) ?_
    refine gx_get (v := .ref (g.2.1 54)) (C := RX9) (T := TX9) (N := 44) hx hb hts mc_X9 hown hK hG (ga_50 g _) rfl 4 (by decide) hw0 rfl rfl dX9_lay_23 ?_
    refine lv_bipush (v := (32 : Int32)) hx hb dX9_lay_26 (by decide) ?_
    refine lv_iload_n hx hb dX9_lay_28 rfl (lv_at hl 2 rfl) ?_
    refine lv_imul hx hb dX9_lay_29 ?_
    refine lv_iload_n hx hb dX9_lay_30 rfl (lv_at hl 3 rfl) ?_
    refine lv_iadd hx hb dX9_lay_31 ?_
    refine lv_iload_n hx hb dX9_lay_32 rfl (lv_at hl 4 rfl) ?_
    obtain ⟨hg1, h⟩ := gd_some h
    obtain ⟨hg2, h⟩ := gd_some h
    refine gx_zast (σ' := (mkS σ [(3238, v_areKindsFound), (3212, v_isMeasured)] [] [(54, (upd v_road ((((32 : Int32) * x1) + x2).toNatClampNeg) x3))] [])) (f := v_road) hx hb hK hG (ga_54 g _) hg1 hg2 ((gs_54 g _ _).trans (congrArg (g_cells g) (mk_c 0 rfl rfl))) dX9_lay_33 (fun H locs hG => ?_)
    refine lv_aload_n hx hb dX9_lay_34 rfl (lv_at hl 1 rfl) ?_
    refine gx_get (v := .ref (g.2.1 54)) (C := RX9) (T := TX9) (N := 44) hx hb hts mc_X9 hown hK hG (ga_50 g _) rfl 4 (by decide) hw0 rfl rfl dX9_lay_35 ?_
    refine lv_bipush (v := (32 : Int32)) hx hb dX9_lay_38 (by decide) ?_
    refine lv_iload_n hx hb dX9_lay_40 rfl (lv_at hl 3 rfl) ?_
    refine lv_imul hx hb dX9_lay_41 ?_
    refine lv_iload_n hx hb dX9_lay_42 rfl (lv_at hl 2 rfl) ?_
    refine lv_iadd hx hb dX9_lay_43 ?_
    refine lv_iload_n hx hb dX9_lay_44 rfl (lv_at hl 4 rfl) ?_
    obtain ⟨hg3, h⟩ := gd_some h
    refine gx_zast (σ' := (mkS σ [(3238, v_areKindsFound), (3212, v_isMeasured)] [] [(54, (upd (upd v_road ((((32 : Int32) * x1) + x2).toNatClampNeg) x3) ((((32 : Int32) * x2) + x1).toNatClampNeg) x3))] [])) (f := (upd v_road ((((32 : Int32) * x1) + x2).toNatClampNeg) x3)) hx hb hK hG (ga_54 g _) hg3 hg2 ((gs_54 g _ _).trans (congrArg (g_cells g) (mk_c 0 rfl rfl))) dX9_lay_45 (fun H locs hG => ?_)
    refine lv_aload_n hx hb dX9_lay_46 rfl (lv_at hl 1 rfl) ?_
    refine lv_iconst (v := (0 : Int32)) hx hb dX9_lay_47 (by decide) ?_
    refine gx_put (σ' := (mkS σ [(3238, v_areKindsFound), (3212, (0 : Int32))] [] [(54, (upd (upd v_road ((((32 : Int32) * x1) + x2).toNatClampNeg) x3) ((((32 : Int32) * x2) + x1).toNatClampNeg) x3))] [])) (C := RX9) (T := TX9) (N := 44) hx hb hts mc_X9 tyX9 tyX9_ok nmX9 hown hK hG (ga_50 g _) rfl 12 (by decide) hw1 rfl rfl (isb_n (by decide)) (isb_f (by decide)) (Nat.le_of_ble_eq_true rfl) ((gf_3212 g _ _).trans (congrArg (g_cells g) (mk_a 1 rfl rfl))) dX9_lay_48 (fun H locs hG => ?_)
    refine lv_aload_n hx hb dX9_lay_51 rfl (lv_at hl 1 rfl) ?_
    refine lv_iconst (v := (0 : Int32)) hx hb dX9_lay_52 (by decide) ?_
    refine gx_put (σ' := (mkS σ [(3238, (0 : Int32)), (3212, (0 : Int32))] [] [(54, (upd (upd v_road ((((32 : Int32) * x1) + x2).toNatClampNeg) x3) ((((32 : Int32) * x2) + x1).toNatClampNeg) x3))] [])) (C := RX9) (T := TX9) (N := 44) hx hb hts mc_X9 tyX9 tyX9_ok nmX9 hown hK hG (ga_50 g _) rfl 38 (by decide) hw2 rfl rfl (isb_n (by decide)) (isb_f (by decide)) (Nat.le_of_ble_eq_true rfl) ((gf_3238 g _ _).trans (congrArg (g_cells g) (mk_a 0 rfl rfl))) dX9_lay_53 (fun H locs hG => ?_)
    refine lv_iload hx hb dX9_lay_56 (lv_at hl 0 rfl) ?_
    obtain ⟨hg4, h⟩ := gd_some h
    cases h
    exact gx_zret hx hb hr hlocks hg4 hG dX9_lay_58
  refine lv_aload_n hx hb dX9_lay_0 rfl (lv_at hl 0 rfl) ?_
  refine gx_get (v := .ref (g.2.1 54)) (C := RX9) (T := TX9) (N := 44) hx hb hts mc_X9 hown hK hG (ga_50 g _) rfl 4 (by decide) hw0 rfl rfl dX9_lay_1 ?_
  refine lv_bipush (v := (32 : Int32)) hx hb dX9_lay_4 (by decide) ?_
  refine lv_iload_n hx hb dX9_lay_6 rfl (lv_at hl 1 rfl) ?_
  refine lv_imul hx hb dX9_lay_7 ?_
  refine lv_iload_n hx hb dX9_lay_8 rfl (lv_at hl 2 rfl) ?_
  refine lv_iadd hx hb dX9_lay_9 ?_
  obtain ⟨hg5, h⟩ := gd_some h
  refine gx_zald (f := (σ.2.2.1 54)) hx hb hK hG (ga_54 g _) hg5 dX9_lay_10 ?_
  refine lv_iload_n hx hb dX9_lay_11 rfl (lv_at hl 3 rfl) ?_
  refine lv_icmp_eq (tgt := 19) hx hb dX9_lay_12 (by decide) (fun c6 => ?_) (fun c6 => ?_)
  · have h := ite_t c6 h
    refine lv_iconst (v := (0 : Int32)) hx hb dX9_lay_19 (by decide) ?_
    exact n20 x1 x2 x3 (0 : Int32) (σ.1 3238) (σ.1 3212) (σ.2.2.1 54) _ _ _ (lv_sub hl [0, 1, 2, 3] rfl) hG h
  · have h := ite_f c6 h
    refine lv_iconst (v := (1 : Int32)) hx hb dX9_lay_15 (by decide) ?_
    refine lv_goto (tgt := 20) hx hb dX9_lay_16 (by decide) ?_
    exact n20 x1 x2 x3 (1 : Int32) (σ.1 3238) (σ.1 3212) (σ.2.2.1 54) _ _ _ (lv_sub hl [0, 1, 2, 3] rfl) hG h

set_option maxHeartbeats 4000000 in
set_option maxRecDepth 100000 in
theorem c_M_findSets (l : Launch) (g : GC) (σ : St) (x1 : Int32) (x2 : Int32) (r : Int32) (w_sets : Nat → Int32) (h : M_findSets x1 x2 (σ.2.2.1 58) = some (r, w_sets)) : Cn l g yX9_findSets (Cond.code yX9_findSets cX9_findSets 10 (some .int) :: wG) 0 0 [.ref (g.2.1 50), .int x1, .int x2] σ (some (.int r)) (mkS σ [] [] [(58, w_sets)] []) := by
  unfold Cn
  refine Met.ofW (cc := cX9_findSets) (maxL := 10) (ret := (some .int)) (by decide) rfl ?_
  intro p e s m args below meth c s₁ B hml hv
  obtain ⟨hargs, hP0, hK⟩ := hv
  have hx := B.exec
  have hb := B.bytes
  have hr := B.returns
  have hts : ∀ w ∈ wG, w.before args s = true := fun w h => atoms_spec (ws := (Cond.code yX9_findSets cX9_findSets 10 (some .int) :: wG)) B.pre w (List.mem_cons_of_mem _ h)
  have hown : s.vm.findClass RX9 = some m.cls := findClass_of_methodNamed B.named
  have hlocks := B.notSynchronized
  have hw0 := hts _ mw_4_150
  have hf9 : entryFrame m args 10 = _ := (congrArg (fun a => entryFrame m a 10) hargs).trans (lg_entry_eq m [.ref (g.2.1 50), .int x1, .int x2] 10)
  show Wg p l e 0 0 s m args below meth c g (some (.int r)) (mkS σ [] [] [(58, w_sets)] []) s.heap [] (entryFrame m args 10)
  rw [hf9]
  have hl := lv_entry ([.ref (g.2.1 50), .int x1, .int x2]) (n := 10) (Nat.le_of_ble_eq_true rfl)
  generalize (lg_sl ([.ref (g.2.1 50), .int x1, .int x2]) ++ List.replicate (10 - (lg_sl ([.ref (g.2.1 50), .int x1, .int x2])).length) Slot.unset).toArray = ls at hl ⊢
  have hl : lv_has ls 10 [(0, .ref (g.2.1 50)), (1, .int x1), (2, .int x2)] := hl
  have hG : GW g s σ s.heap [] := ⟨hP0, va_S.rf⟩
  have hG : GW g s (mkS σ [] [] [(58, (σ.2.2.1 58))] []) s.heap [] := GW_self [] [] [58] [] hG
  unfold M_findSets at h
  have n69 : ∀ (x3 : Int32) (v_sets : Nat → Int32) (H : Heap) (locs : List Loc) (ls : Array Slot), lv_has ls 10 [(3, .int x3)] → GW g s (mkS σ [] [] [(58, v_sets)] []) H locs → M_findSets_n69 x3 v_sets = some (r, w_sets) → Wg p l e 0 0 s m args below meth c g (some (.int r)) (mkS σ [] [] [(58, w_sets)] []) H locs (F0 m 69 ls []) := by
    intro x3 v_sets H locs ls hl hG h
    unfold M_findSets_n69 at h
    refine lv_iload_n hx hb dX9_findSets_69 rfl (lv_at hl 0 rfl) ?_
    cases h
    exact gx_iret hx hb hr hlocks hG dX9_findSets_70
  have n9 : ∀ (k9 : Int32 → Int32 → Int64 → (Nat → Int32) → Option (Int32 × (Nat → Int32))) (hk9 : ∀ (x1 : Int32) (x3 : Int32) (x4 : Int64) (v_sets : Nat → Int32) (H : Heap) (locs : List Loc) (ls : Array Slot), lv_has ls 10 [(0, .ref (g.2.1 50)), (1, .int x1), (3, .int x3), (4, .long x4)] → GW g s (mkS σ [] [] [(58, v_sets)] []) H locs → k9 x1 x3 x4 v_sets = some (r, w_sets) → Wg p l e 0 0 s m args below meth c g (some (.int r)) (mkS σ [] [] [(58, w_sets)] []) H locs (F0 m 9 ls [])) (x1 : Int32) (x3 : Int32) (x4 : Int64) (v_sets : Nat → Int32) (H : Heap) (locs : List Loc) (ls : Array Slot), lv_has ls 10 [(0, .ref (g.2.1 50)), (1, .int x1), (3, .int x3), (4, .long x4)] → GW g s (mkS σ [] [] [(58, v_sets)] []) H locs → M_findSets_n9 k9 x1 x3 x4 v_sets = some (r, w_sets) → Wg p l e 0 0 s m args below meth c g (some (.int r)) (mkS σ [] [] [(58, w_sets)] []) H locs (F0 m 9 ls []) := by
    intro k9 hk9 x1 x3 x4 v_sets H locs ls hl hG h
    unfold M_findSets_n9 at h
    refine lv_lload hx hb dX9_findSets_9 (lv_at hl 3 rfl) ?_
    refine lv_lconst (v := (1 : Int64)) hx hb dX9_findSets_11 (by decide) ?_
    refine lv_iload_n hx hb dX9_findSets_12 rfl (lv_at hl 1 rfl) ?_
    refine lv_lshl hx hb dX9_findSets_13 rfl ?_
    refine W.lcmp hx hb dX9_findSets_14 ?_
    refine lv_if_ge (tgt := 69) hx hb dX9_findSets_15 (by decide) (fun c1 => ?_) (fun c1 => ?_)
    · have h := ite_t c1 h
      exact n69 x3 v_sets _ _ _ (lv_sub hl [2] rfl) hG h
    · have h := ite_f c1 h
      refine lv_iload_n hx hb dX9_findSets_18 rfl (lv_at hl 2 rfl) ?_
      refine lv_bipush (v := (32 : Int32)) hx hb dX9_findSets_19 (by decide) ?_
      refine lv_icmp_gt (tgt := 69) hx hb dX9_findSets_21 (by decide) (fun c2 => ?_) (fun c2 => ?_)
      · have h := ite_t c2 h
        exact n69 x3 v_sets _ _ _ (lv_sub hl [2] rfl) hG h
      · have h := ite_f c2 h
        refine lv_aload_n hx hb dX9_findSets_24 rfl (lv_at hl 0 rfl) ?_
        refine gx_get (v := .ref (g.2.1 58)) (C := RX9) (T := TX9) (N := 44) hx hb hts mc_X9 hown hK hG (ga_50 g _) rfl 11 (by decide) hw0 rfl rfl dX9_findSets_25 ?_
        refine lv_iload_n hx hb dX9_findSets_28 rfl (lv_at hl 2 rfl) ?_
        refine lv_lload hx hb dX9_findSets_29 (lv_at hl 3 rfl) ?_
        refine lv_l2i hx hb dX9_findSets_31 rfl ?_
        obtain ⟨hg3, h⟩ := gd_some h
        refine gx_iast (σ' := (mkS σ [] [] [(58, (upd v_sets (x3.toNatClampNeg) (x4.toInt32)))] [])) (f := v_sets) hx hb hK hG (ga_58 g _) hg3 ((gs_58 g _ _).trans (congrArg (g_cells g) (mk_c 0 rfl rfl))) dX9_findSets_32 (fun H locs hG => ?_)
        refine lv_iinc (v := (x3 + (1 : Int32))) (lv' := [(3, .int (x3 + (1 : Int32))), (0, .ref (g.2.1 50)), (1, .int x1), (4, .long x4)]) hx hb dX9_findSets_33 hl (k := 2) rfl (congrArg (fun z => x3 + z) (by decide)) (Nat.le_of_ble_eq_true rfl) rfl (fun ls hl => ?_)
        refine lv_lload hx hb dX9_findSets_36 (lv_at hl 3 rfl) ?_
        refine lv_lload hx hb dX9_findSets_38 (lv_at hl 3 rfl) ?_
        refine lv_lneg hx hb dX9_findSets_40 ?_
        refine lv_land hx hb dX9_findSets_41 ?_
        refine lv_lstore (lv' := [(6, .long (x4 &&& (-x4))), (3, .int (x3 + (1 : Int32))), (0, .ref (g.2.1 50)), (1, .int x1), (4, .long x4)]) hx hb dX9_findSets_42 hl (Nat.le_of_ble_eq_true rfl) rfl (fun ls hl => ?_)
        refine lv_lload hx hb dX9_findSets_44 (lv_at hl 4 rfl) ?_
        refine lv_lload hx hb dX9_findSets_46 (lv_at hl 0 rfl) ?_
        refine lv_ladd hx hb dX9_findSets_48 ?_
        refine lv_lstore (lv' := [(8, .long (x4 + (x4 &&& (-x4)))), (6, .long (x4 &&& (-x4))), (3, .int (x3 + (1 : Int32))), (0, .ref (g.2.1 50)), (1, .int x1), (4, .long x4)]) hx hb dX9_findSets_49 hl (Nat.le_of_ble_eq_true rfl) rfl (fun ls hl => ?_)
        refine lv_lload hx hb dX9_findSets_51 (lv_at hl 5 rfl) ?_
        refine lv_lload hx hb dX9_findSets_53 (lv_at hl 0 rfl) ?_
        refine lv_lxor hx hb dX9_findSets_55 ?_
        refine lv_lload hx hb dX9_findSets_56 (lv_at hl 1 rfl) ?_
        obtain ⟨hg4, h⟩ := gd_some h
        refine lv_ldiv hx hb dX9_findSets_58 (nzL_ne hg4) ?_
        refine lv_iconst (v := (2 : Int32)) hx hb dX9_findSets_59 (by decide) ?_
        refine lv_lshr hx hb dX9_findSets_60 rfl ?_
        refine lv_lload hx hb dX9_findSets_61 (lv_at hl 0 rfl) ?_
        refine lv_lor hx hb dX9_findSets_63 ?_
        refine lv_topl (fun y5 ey5 => ?_)
        have h := lt_at h ey5
        refine lv_lstore (lv' := [(4, .long y5), (8, .long (x4 + (x4 &&& (-x4)))), (6, .long (x4 &&& (-x4))), (3, .int (x3 + (1 : Int32))), (0, .ref (g.2.1 50)), (1, .int x1)]) hx hb dX9_findSets_64 hl (Nat.le_of_ble_eq_true rfl) rfl (fun ls hl => ?_)
        refine lv_goto (tgt := 9) hx hb dX9_findSets_66 (by decide) ?_
        exact hk9 x1 (x3 + (1 : Int32)) y5 (upd v_sets (x3.toNatClampNeg) (x4.toInt32)) _ _ _ (lv_sub hl [4, 5, 3, 0] rfl) hG h
  have l9 : ∀  (F : Nat) (x1 : Int32) (x3 : Int32) (x4 : Int64) (v_sets : Nat → Int32) (H : Heap) (locs : List Loc) (ls : Array Slot), lv_has ls 10 [(0, .ref (g.2.1 50)), (1, .int x1), (3, .int x3), (4, .long x4)] → GW g s (mkS σ [] [] [(58, v_sets)] []) H locs → M_findSets_l9 F x1 x3 x4 v_sets = some (r, w_sets) → Wg p l e 0 0 s m args below meth c g (some (.int r)) (mkS σ [] [] [(58, w_sets)] []) H locs (F0 m 9 ls []) := by
    intro F
    induction F with
    | zero => intro x1 x3 x4 v_sets H locs ls hl hG h; exact no_some h
    | succ F ih => intro x1 x3 x4 v_sets H locs ls hl hG h; exact n9 (fun x1 x3 x4 v_sets => M_findSets_l9 F x1 x3 x4 v_sets) ih x1 x3 x4 v_sets H locs ls hl hG h
  refine lv_iconst (v := (0 : Int32)) hx hb dX9_findSets_0 (by decide) ?_
  refine lv_istore_n (lv' := [(3, .int (0 : Int32)), (0, .ref (g.2.1 50)), (1, .int x1), (2, .int x2)]) hx hb dX9_findSets_1 rfl hl (Nat.le_of_ble_eq_true rfl) rfl (fun ls hl => ?_)
  refine lv_lconst (v := (1 : Int64)) hx hb dX9_findSets_2 (by decide) ?_
  refine lv_iload_n hx hb dX9_findSets_3 rfl (lv_at hl 3 rfl) ?_
  refine lv_lshl hx hb dX9_findSets_4 rfl ?_
  refine lv_lconst (v := (1 : Int64)) hx hb dX9_findSets_5 (by decide) ?_
  refine lv_lsub hx hb dX9_findSets_6 ?_
  refine lv_topl (fun y6 ey6 => ?_)
  have h := lt_at h ey6
  refine lv_lstore (lv' := [(4, .long y6), (3, .int (0 : Int32)), (0, .ref (g.2.1 50)), (1, .int x1), (2, .int x2)]) hx hb dX9_findSets_7 hl (Nat.le_of_ble_eq_true rfl) rfl (fun ls hl => ?_)
  exact l9 FUEL x1 (0 : Int32) y6 (σ.2.2.1 58) _ _ _ (lv_sub hl [2, 3, 1, 0] rfl) hG h

set_option maxHeartbeats 4000000 in
set_option maxRecDepth 100000 in
theorem c_M_build (l : Launch) (g : GC) (σ : St) (x1 : Int32) (x2 : Int32) (x3 : Int32) (r : Int32) (w_areKindsFound : Int32) (w_isMeasured : Int32) (w_posts : Int32) (w_road : Nat → Int32) (w_sets : Nat → Int32) (h : M_build x1 x2 x3 (σ.1 3238) (σ.1 3212) (σ.1 3203) (σ.2.2.1 54) (σ.2.2.1 58) = some (r, w_areKindsFound, w_isMeasured, w_posts, w_road, w_sets)) : Cn l g yX9_build (Cond.code yX9_build cX9_build 9 (some .int) :: wG) 2 52 [.ref (g.2.1 50), .int x1, .int x2, .int x3] σ (some (.int r)) (mkS σ [(3238, w_areKindsFound), (3212, w_isMeasured), (3203, w_posts)] [] [(54, w_road), (58, w_sets)] []) := by
  unfold Cn
  refine Met.ofW (cc := cX9_build) (maxL := 9) (ret := (some .int)) (by decide) rfl ?_
  intro p e s m args below meth c s₁ B hml hv
  obtain ⟨hargs, hP0, hK⟩ := hv
  have hx := B.exec
  have hb := B.bytes
  have hr := B.returns
  have hts : ∀ w ∈ wG, w.before args s = true := fun w h => atoms_spec (ws := (Cond.code yX9_build cX9_build 9 (some .int) :: wG)) B.pre w (List.mem_cons_of_mem _ h)
  have hown : s.vm.findClass RX9 = some m.cls := findClass_of_methodNamed B.named
  have hlocks := B.notSynchronized
  have hS9 : CallFix p m c cX9_build 9 s args wG RX9 := ⟨hx, hb, hml, hown, hts⟩
  have hw0 := hts _ mw_4_142
  have hw1 := hts _ mw_5_57
  have hf9 : entryFrame m args 9 = _ := (congrArg (fun a => entryFrame m a 9) hargs).trans (lg_entry_eq m [.ref (g.2.1 50), .int x1, .int x2, .int x3] 9)
  show Wg p l e 2 52 s m args below meth c g (some (.int r)) (mkS σ [(3238, w_areKindsFound), (3212, w_isMeasured), (3203, w_posts)] [] [(54, w_road), (58, w_sets)] []) s.heap [] (entryFrame m args 9)
  rw [hf9]
  have hl := lv_entry ([.ref (g.2.1 50), .int x1, .int x2, .int x3]) (n := 9) (Nat.le_of_ble_eq_true rfl)
  generalize (lg_sl ([.ref (g.2.1 50), .int x1, .int x2, .int x3]) ++ List.replicate (9 - (lg_sl ([.ref (g.2.1 50), .int x1, .int x2, .int x3])).length) Slot.unset).toArray = ls at hl ⊢
  have hl : lv_has ls 9 [(0, .ref (g.2.1 50)), (1, .int x1), (2, .int x2), (3, .int x3)] := hl
  have hG : GW g s σ s.heap [] := ⟨hP0, va_S.rf⟩
  have hG : GW g s (mkS σ [(3238, (σ.1 3238)), (3212, (σ.1 3212)), (3203, (σ.1 3203))] [] [(54, (σ.2.2.1 54)), (58, (σ.2.2.1 58))] []) s.heap [] := GW_self [3238, 3212, 3203] [] [54, 58] [] hG
  unfold M_build at h
  have n103 : ∀ (k71 : Int32 → Int32 → Int32 → Int32 → Int32 → Int32 → Int32 → Int32 → (Nat → Int32) → (Nat → Int32) → Option (Int32 × Int32 × Int32 × Int32 × (Nat → Int32) × (Nat → Int32))) (hk71 : ∀ (x1 : Int32) (x2 : Int32) (x3 : Int32) (x6 : Int32) (x7 : Int32) (v_areKindsFound : Int32) (v_isMeasured : Int32) (v_posts : Int32) (v_road : Nat → Int32) (v_sets : Nat → Int32) (H : Heap) (locs : List Loc) (ls : Array Slot), lv_has ls 9 [(0, .ref (g.2.1 50)), (1, .int x1), (2, .int x2), (3, .int x3), (6, .int x6), (7, .int x7)] → GW g s (mkS σ [(3238, v_areKindsFound), (3212, v_isMeasured), (3203, v_posts)] [] [(54, v_road), (58, v_sets)] []) H locs → k71 x1 x2 x3 x6 x7 v_areKindsFound v_isMeasured v_posts v_road v_sets = some (r, w_areKindsFound, w_isMeasured, w_posts, w_road, w_sets) → Wg p l e 2 52 s m args below meth c g (some (.int r)) (mkS σ [(3238, w_areKindsFound), (3212, w_isMeasured), (3203, w_posts)] [] [(54, w_road), (58, w_sets)] []) H locs (F0 m 71 ls [])) (x1 : Int32) (x2 : Int32) (x3 : Int32) (x6 : Int32) (x7 : Int32) (v_areKindsFound : Int32) (v_isMeasured : Int32) (v_posts : Int32) (v_road : Nat → Int32) (v_sets : Nat → Int32) (H : Heap) (locs : List Loc) (ls : Array Slot), lv_has ls 9 [(0, .ref (g.2.1 50)), (1, .int x1), (2, .int x2), (3, .int x3), (6, .int x6), (7, .int x7)] → GW g s (mkS σ [(3238, v_areKindsFound), (3212, v_isMeasured), (3203, v_posts)] [] [(54, v_road), (58, v_sets)] []) H locs → M_build_n103 k71 x1 x2 x3 x6 x7 v_areKindsFound v_isMeasured v_posts v_road v_sets = some (r, w_areKindsFound, w_isMeasured, w_posts, w_road, w_sets) → Wg p l e 2 52 s m args below meth c g (some (.int r)) (mkS σ [(3238, w_areKindsFound), (3212, w_isMeasured), (3203, w_posts)] [] [(54, w_road), (58, w_sets)] []) H locs (F0 m 103 ls []) := by
    intro k71 hk71 x1 x2 x3 x6 x7 v_areKindsFound v_isMeasured v_posts v_road v_sets H locs ls hl hG h
    unfold M_build_n103 at h
    refine lv_iinc (v := (x7 + (1 : Int32))) (lv' := [(7, .int (x7 + (1 : Int32))), (0, .ref (g.2.1 50)), (1, .int x1), (2, .int x2), (3, .int x3), (6, .int x6)]) hx hb dX9_build_103 hl (k := 5) rfl (congrArg (fun z => x7 + z) (by decide)) (Nat.le_of_ble_eq_true rfl) rfl (fun ls hl => ?_)
    refine lv_goto (tgt := 71) hx hb dX9_build_106 (by decide) ?_
    exact hk71 x1 x2 x3 x6 (x7 + (1 : Int32)) v_areKindsFound v_isMeasured v_posts v_road v_sets _ _ _ (lv_sub hl [1, 2, 3, 4, 5, 0] rfl) hG h
  have n109 : ∀ (k59 : Int32 → Int32 → Int32 → Int32 → Int32 → Int32 → Int32 → (Nat → Int32) → (Nat → Int32) → Option (Int32 × Int32 × Int32 × Int32 × (Nat → Int32) × (Nat → Int32))) (hk59 : ∀ (x1 : Int32) (x2 : Int32) (x3 : Int32) (x6 : Int32) (v_areKindsFound : Int32) (v_isMeasured : Int32) (v_posts : Int32) (v_road : Nat → Int32) (v_sets : Nat → Int32) (H : Heap) (locs : List Loc) (ls : Array Slot), lv_has ls 9 [(0, .ref (g.2.1 50)), (1, .int x1), (2, .int x2), (3, .int x3), (6, .int x6)] → GW g s (mkS σ [(3238, v_areKindsFound), (3212, v_isMeasured), (3203, v_posts)] [] [(54, v_road), (58, v_sets)] []) H locs → k59 x1 x2 x3 x6 v_areKindsFound v_isMeasured v_posts v_road v_sets = some (r, w_areKindsFound, w_isMeasured, w_posts, w_road, w_sets) → Wg p l e 2 52 s m args below meth c g (some (.int r)) (mkS σ [(3238, w_areKindsFound), (3212, w_isMeasured), (3203, w_posts)] [] [(54, w_road), (58, w_sets)] []) H locs (F0 m 59 ls [])) (x1 : Int32) (x2 : Int32) (x3 : Int32) (x6 : Int32) (v_areKindsFound : Int32) (v_isMeasured : Int32) (v_posts : Int32) (v_road : Nat → Int32) (v_sets : Nat → Int32) (H : Heap) (locs : List Loc) (ls : Array Slot), lv_has ls 9 [(0, .ref (g.2.1 50)), (1, .int x1), (2, .int x2), (3, .int x3), (6, .int x6)] → GW g s (mkS σ [(3238, v_areKindsFound), (3212, v_isMeasured), (3203, v_posts)] [] [(54, v_road), (58, v_sets)] []) H locs → M_build_n109 k59 x1 x2 x3 x6 v_areKindsFound v_isMeasured v_posts v_road v_sets = some (r, w_areKindsFound, w_isMeasured, w_posts, w_road, w_sets) → Wg p l e 2 52 s m args below meth c g (some (.int r)) (mkS σ [(3238, w_areKindsFound), (3212, w_isMeasured), (3203, w_posts)] [] [(54, w_road), (58, w_sets)] []) H locs (F0 m 109 ls []) := by
    intro k59 hk59 x1 x2 x3 x6 v_areKindsFound v_isMeasured v_posts v_road v_sets H locs ls hl hG h
    unfold M_build_n109 at h
    refine lv_iinc (v := (x6 + (1 : Int32))) (lv' := [(6, .int (x6 + (1 : Int32))), (0, .ref (g.2.1 50)), (1, .int x1), (2, .int x2), (3, .int x3)]) hx hb dX9_build_109 hl (k := 4) rfl (congrArg (fun z => x6 + z) (by decide)) (Nat.le_of_ble_eq_true rfl) rfl (fun ls hl => ?_)
    refine lv_goto (tgt := 59) hx hb dX9_build_112 (by decide) ?_
    exact hk59 x1 x2 x3 (x6 + (1 : Int32)) v_areKindsFound v_isMeasured v_posts v_road v_sets _ _ _ (lv_sub hl [1, 2, 3, 4, 0] rfl) hG h
  have n71 : ∀ (k59 : Int32 → Int32 → Int32 → Int32 → Int32 → Int32 → Int32 → (Nat → Int32) → (Nat → Int32) → Option (Int32 × Int32 × Int32 × Int32 × (Nat → Int32) × (Nat → Int32))) (hk59 : ∀ (x1 : Int32) (x2 : Int32) (x3 : Int32) (x6 : Int32) (v_areKindsFound : Int32) (v_isMeasured : Int32) (v_posts : Int32) (v_road : Nat → Int32) (v_sets : Nat → Int32) (H : Heap) (locs : List Loc) (ls : Array Slot), lv_has ls 9 [(0, .ref (g.2.1 50)), (1, .int x1), (2, .int x2), (3, .int x3), (6, .int x6)] → GW g s (mkS σ [(3238, v_areKindsFound), (3212, v_isMeasured), (3203, v_posts)] [] [(54, v_road), (58, v_sets)] []) H locs → k59 x1 x2 x3 x6 v_areKindsFound v_isMeasured v_posts v_road v_sets = some (r, w_areKindsFound, w_isMeasured, w_posts, w_road, w_sets) → Wg p l e 2 52 s m args below meth c g (some (.int r)) (mkS σ [(3238, w_areKindsFound), (3212, w_isMeasured), (3203, w_posts)] [] [(54, w_road), (58, w_sets)] []) H locs (F0 m 59 ls [])) (k71 : Int32 → Int32 → Int32 → Int32 → Int32 → Int32 → Int32 → Int32 → (Nat → Int32) → (Nat → Int32) → Option (Int32 × Int32 × Int32 × Int32 × (Nat → Int32) × (Nat → Int32))) (hk71 : ∀ (x1 : Int32) (x2 : Int32) (x3 : Int32) (x6 : Int32) (x7 : Int32) (v_areKindsFound : Int32) (v_isMeasured : Int32) (v_posts : Int32) (v_road : Nat → Int32) (v_sets : Nat → Int32) (H : Heap) (locs : List Loc) (ls : Array Slot), lv_has ls 9 [(0, .ref (g.2.1 50)), (1, .int x1), (2, .int x2), (3, .int x3), (6, .int x6), (7, .int x7)] → GW g s (mkS σ [(3238, v_areKindsFound), (3212, v_isMeasured), (3203, v_posts)] [] [(54, v_road), (58, v_sets)] []) H locs → k71 x1 x2 x3 x6 x7 v_areKindsFound v_isMeasured v_posts v_road v_sets = some (r, w_areKindsFound, w_isMeasured, w_posts, w_road, w_sets) → Wg p l e 2 52 s m args below meth c g (some (.int r)) (mkS σ [(3238, w_areKindsFound), (3212, w_isMeasured), (3203, w_posts)] [] [(54, w_road), (58, w_sets)] []) H locs (F0 m 71 ls [])) (x1 : Int32) (x2 : Int32) (x3 : Int32) (x6 : Int32) (x7 : Int32) (v_areKindsFound : Int32) (v_isMeasured : Int32) (v_posts : Int32) (v_road : Nat → Int32) (v_sets : Nat → Int32) (H : Heap) (locs : List Loc) (ls : Array Slot), lv_has ls 9 [(0, .ref (g.2.1 50)), (1, .int x1), (2, .int x2), (3, .int x3), (6, .int x6), (7, .int x7)] → GW g s (mkS σ [(3238, v_areKindsFound), (3212, v_isMeasured), (3203, v_posts)] [] [(54, v_road), (58, v_sets)] []) H locs → M_build_n71 k59 k71 x1 x2 x3 x6 x7 v_areKindsFound v_isMeasured v_posts v_road v_sets = some (r, w_areKindsFound, w_isMeasured, w_posts, w_road, w_sets) → Wg p l e 2 52 s m args below meth c g (some (.int r)) (mkS σ [(3238, w_areKindsFound), (3212, w_isMeasured), (3203, w_posts)] [] [(54, w_road), (58, w_sets)] []) H locs (F0 m 71 ls []) := by
    intro k59 hk59 k71 hk71 x1 x2 x3 x6 x7 v_areKindsFound v_isMeasured v_posts v_road v_sets H locs ls hl hG h
    unfold M_build_n71 at h
    refine lv_iload hx hb dX9_build_71 (lv_at hl 5 rfl) ?_
    refine lv_iload hx hb dX9_build_73 (lv_at hl 4 rfl) ?_
    refine lv_icmp_ge (tgt := 109) hx hb dX9_build_75 (by decide) (fun c1 => ?_) (fun c1 => ?_)
    · have h := ite_t c1 h
      exact n109 k59 hk59 x1 x2 x3 x6 v_areKindsFound v_isMeasured v_posts v_road v_sets _ _ _ (lv_sub hl [0, 1, 2, 3, 4] rfl) hG h
    · have h := ite_f c1 h
      refine lv_aload_n hx hb dX9_build_78 rfl (lv_at hl 0 rfl) ?_
      refine lv_iload_n hx hb dX9_build_79 rfl (lv_at hl 1 rfl) ?_
      refine lv_iload_n hx hb dX9_build_80 rfl (lv_at hl 2 rfl) ?_
      refine lv_iload_n hx hb dX9_build_81 rfl (lv_at hl 3 rfl) ?_
      refine lv_iload hx hb dX9_build_82 (lv_at hl 4 rfl) ?_
      refine lv_iload hx hb dX9_build_84 (lv_at hl 5 rfl) ?_
      obtain ⟨z2, hc3, h⟩ := bnd_some h
      refine gx_cV (σ' := (mkS σ [(3238, v_areKindsFound), (3212, v_isMeasured), (3203, v_posts)] [] [(54, v_road), (58, v_sets)] [])) (r := (some (.int z2))) (rest := []) (As := [.int x1, .int x2, .int x3, .int x6, .int x7]) hS9 (c_M_isMade l g (mkS σ [(3238, v_areKindsFound), (3212, v_isMeasured), (3203, v_posts)] [] [(54, v_road), (58, v_sets)] []) x1 x2 x3 x6 x7 z2 hc3) rfl (cwV 5 hts (gz_V mw_5_103 mw_5_105 ms_3_8 mw_1_11 mw_5_106) rfl rfl rfl hdV_X9_isMade ⟨Nat.le_of_ble_eq_true rfl, Nat.le_of_ble_eq_true rfl⟩) hK hG (ga_50 g _) rfl rfl rfl hl.1 rfl (Nat.le_of_ble_eq_true rfl) dX9_build_86 (fun H locs hG => ?_)
      refine W.eq (g2 := F0 m 89 ls [.int z2]) rfl ?_
      refine lv_if_eq (tgt := 103) hx hb dX9_build_89 (by decide) (fun c4 => ?_) (fun c4 => ?_)
      · have h := ite_t c4 h
        exact n103 k71 hk71 x1 x2 x3 x6 x7 v_areKindsFound v_isMeasured v_posts v_road v_sets _ _ _ (lv_sub hl [0, 1, 2, 3, 4, 5] rfl) hG h
      · have h := ite_f c4 h
        refine lv_aload_n hx hb dX9_build_92 rfl (lv_at hl 0 rfl) ?_
        refine lv_iload hx hb dX9_build_93 (lv_at hl 4 rfl) ?_
        refine lv_iload hx hb dX9_build_95 (lv_at hl 5 rfl) ?_
        refine lv_iconst (v := (1 : Int32)) hx hb dX9_build_97 (by decide) ?_
        obtain ⟨z5, hc6, h⟩ := bnd_some h
        refine gx_cV (σ' := (mkS σ [(3238, z5.2.1), (3212, z5.2.2.1), (3203, v_posts)] [] [(54, z5.2.2.2), (58, v_sets)] [])) (r := (some (.int z5.1))) (rest := []) (As := [.int x6, .int x7, .int (1 : Int32)]) hS9 (c_M_lay l g (mkS σ [(3238, v_areKindsFound), (3212, v_isMeasured), (3203, v_posts)] [] [(54, v_road), (58, v_sets)] []) x6 x7 (1 : Int32) z5.1 z5.2.1 z5.2.2.1 z5.2.2.2 hc6) (mk_mk rfl rfl rfl rfl) (cwV 3 hts (gz_V mw_5_70 mw_5_72 ms_3_6 mw_1_11 mw_5_73) rfl rfl rfl hdV_X9_lay ⟨Nat.le_of_ble_eq_true rfl, Nat.le_of_ble_eq_true rfl⟩) hK hG (ga_50 g _) rfl rfl rfl hl.1 rfl (Nat.le_of_ble_eq_true rfl) dX9_build_98 (fun H locs hG => ?_)
        refine W.eq (g2 := F0 m 101 ls [.int z5.1]) rfl ?_
        refine lv_istore (lv' := [(8, .int z5.1), (0, .ref (g.2.1 50)), (1, .int x1), (2, .int x2), (3, .int x3), (6, .int x6), (7, .int x7)]) hx hb dX9_build_101 hl (Nat.le_of_ble_eq_true rfl) rfl (fun ls hl => ?_)
        exact n103 k71 hk71 x1 x2 x3 x6 x7 z5.2.1 z5.2.2.1 v_posts z5.2.2.2 v_sets _ _ _ (lv_sub hl [1, 2, 3, 4, 5, 6] rfl) hG h
  have l71 : ∀ (k59 : Int32 → Int32 → Int32 → Int32 → Int32 → Int32 → Int32 → (Nat → Int32) → (Nat → Int32) → Option (Int32 × Int32 × Int32 × Int32 × (Nat → Int32) × (Nat → Int32))) (hk59 : ∀ (x1 : Int32) (x2 : Int32) (x3 : Int32) (x6 : Int32) (v_areKindsFound : Int32) (v_isMeasured : Int32) (v_posts : Int32) (v_road : Nat → Int32) (v_sets : Nat → Int32) (H : Heap) (locs : List Loc) (ls : Array Slot), lv_has ls 9 [(0, .ref (g.2.1 50)), (1, .int x1), (2, .int x2), (3, .int x3), (6, .int x6)] → GW g s (mkS σ [(3238, v_areKindsFound), (3212, v_isMeasured), (3203, v_posts)] [] [(54, v_road), (58, v_sets)] []) H locs → k59 x1 x2 x3 x6 v_areKindsFound v_isMeasured v_posts v_road v_sets = some (r, w_areKindsFound, w_isMeasured, w_posts, w_road, w_sets) → Wg p l e 2 52 s m args below meth c g (some (.int r)) (mkS σ [(3238, w_areKindsFound), (3212, w_isMeasured), (3203, w_posts)] [] [(54, w_road), (58, w_sets)] []) H locs (F0 m 59 ls [])) (F : Nat) (x1 : Int32) (x2 : Int32) (x3 : Int32) (x6 : Int32) (x7 : Int32) (v_areKindsFound : Int32) (v_isMeasured : Int32) (v_posts : Int32) (v_road : Nat → Int32) (v_sets : Nat → Int32) (H : Heap) (locs : List Loc) (ls : Array Slot), lv_has ls 9 [(0, .ref (g.2.1 50)), (1, .int x1), (2, .int x2), (3, .int x3), (6, .int x6), (7, .int x7)] → GW g s (mkS σ [(3238, v_areKindsFound), (3212, v_isMeasured), (3203, v_posts)] [] [(54, v_road), (58, v_sets)] []) H locs → M_build_l71 k59 F x1 x2 x3 x6 x7 v_areKindsFound v_isMeasured v_posts v_road v_sets = some (r, w_areKindsFound, w_isMeasured, w_posts, w_road, w_sets) → Wg p l e 2 52 s m args below meth c g (some (.int r)) (mkS σ [(3238, w_areKindsFound), (3212, w_isMeasured), (3203, w_posts)] [] [(54, w_road), (58, w_sets)] []) H locs (F0 m 71 ls []) := by
    intro k59 hk59 F
    induction F with
    | zero => intro x1 x2 x3 x6 x7 v_areKindsFound v_isMeasured v_posts v_road v_sets H locs ls hl hG h; exact no_some h
    | succ F ih => intro x1 x2 x3 x6 x7 v_areKindsFound v_isMeasured v_posts v_road v_sets H locs ls hl hG h; exact n71 k59 hk59 (fun x1 x2 x3 x6 x7 v_areKindsFound v_isMeasured v_posts v_road v_sets => M_build_l71 k59 F x1 x2 x3 x6 x7 v_areKindsFound v_isMeasured v_posts v_road v_sets) ih x1 x2 x3 x6 x7 v_areKindsFound v_isMeasured v_posts v_road v_sets H locs ls hl hG h
  have n115 : ∀ (v_areKindsFound : Int32) (v_isMeasured : Int32) (v_posts : Int32) (v_road : Nat → Int32) (v_sets : Nat → Int32) (H : Heap) (locs : List Loc) (ls : Array Slot), lv_has ls 9 [(0, .ref (g.2.1 50))] → GW g s (mkS σ [(3238, v_areKindsFound), (3212, v_isMeasured), (3203, v_posts)] [] [(54, v_road), (58, v_sets)] []) H locs → M_build_n115 v_areKindsFound v_isMeasured v_posts v_road v_sets = some (r, w_areKindsFound, w_isMeasured, w_posts, w_road, w_sets) → Wg p l e 2 52 s m args below meth c g (some (.int r)) (mkS σ [(3238, w_areKindsFound), (3212, w_isMeasured), (3203, w_posts)] [] [(54, w_road), (58, w_sets)] []) H locs (F0 m 115 ls []) := by
    intro v_areKindsFound v_isMeasured v_posts v_road v_sets H locs ls hl hG h
    unfold M_build_n115 at h
    refine lv_aload_n hx hb dX9_build_115 rfl (lv_at hl 0 rfl) ?_
    refine gx_get (v := .int v_posts) (C := RX9) (T := TX9) (N := 44) hx hb hts mc_X9 hown hK hG (ga_50 g _) rfl 3 (by decide) hw0 rfl rfl dX9_build_116 ?_
    cases h
    exact gx_iret hx hb hr hlocks hG dX9_build_119
  have n59 : ∀ (k59 : Int32 → Int32 → Int32 → Int32 → Int32 → Int32 → Int32 → (Nat → Int32) → (Nat → Int32) → Option (Int32 × Int32 × Int32 × Int32 × (Nat → Int32) × (Nat → Int32))) (hk59 : ∀ (x1 : Int32) (x2 : Int32) (x3 : Int32) (x6 : Int32) (v_areKindsFound : Int32) (v_isMeasured : Int32) (v_posts : Int32) (v_road : Nat → Int32) (v_sets : Nat → Int32) (H : Heap) (locs : List Loc) (ls : Array Slot), lv_has ls 9 [(0, .ref (g.2.1 50)), (1, .int x1), (2, .int x2), (3, .int x3), (6, .int x6)] → GW g s (mkS σ [(3238, v_areKindsFound), (3212, v_isMeasured), (3203, v_posts)] [] [(54, v_road), (58, v_sets)] []) H locs → k59 x1 x2 x3 x6 v_areKindsFound v_isMeasured v_posts v_road v_sets = some (r, w_areKindsFound, w_isMeasured, w_posts, w_road, w_sets) → Wg p l e 2 52 s m args below meth c g (some (.int r)) (mkS σ [(3238, w_areKindsFound), (3212, w_isMeasured), (3203, w_posts)] [] [(54, w_road), (58, w_sets)] []) H locs (F0 m 59 ls [])) (x1 : Int32) (x2 : Int32) (x3 : Int32) (x6 : Int32) (v_areKindsFound : Int32) (v_isMeasured : Int32) (v_posts : Int32) (v_road : Nat → Int32) (v_sets : Nat → Int32) (H : Heap) (locs : List Loc) (ls : Array Slot), lv_has ls 9 [(0, .ref (g.2.1 50)), (1, .int x1), (2, .int x2), (3, .int x3), (6, .int x6)] → GW g s (mkS σ [(3238, v_areKindsFound), (3212, v_isMeasured), (3203, v_posts)] [] [(54, v_road), (58, v_sets)] []) H locs → M_build_n59 k59 x1 x2 x3 x6 v_areKindsFound v_isMeasured v_posts v_road v_sets = some (r, w_areKindsFound, w_isMeasured, w_posts, w_road, w_sets) → Wg p l e 2 52 s m args below meth c g (some (.int r)) (mkS σ [(3238, w_areKindsFound), (3212, w_isMeasured), (3203, w_posts)] [] [(54, w_road), (58, w_sets)] []) H locs (F0 m 59 ls []) := by
    intro k59 hk59 x1 x2 x3 x6 v_areKindsFound v_isMeasured v_posts v_road v_sets H locs ls hl hG h
    unfold M_build_n59 at h
    refine lv_iload hx hb dX9_build_59 (lv_at hl 4 rfl) ?_
    refine lv_aload_n hx hb dX9_build_61 rfl (lv_at hl 0 rfl) ?_
    refine gx_get (v := .int v_posts) (C := RX9) (T := TX9) (N := 44) hx hb hts mc_X9 hown hK hG (ga_50 g _) rfl 3 (by decide) hw0 rfl rfl dX9_build_62 ?_
    refine lv_icmp_ge (tgt := 115) hx hb dX9_build_65 (by decide) (fun c7 => ?_) (fun c7 => ?_)
    · have h := ite_t c7 h
      exact n115 v_areKindsFound v_isMeasured v_posts v_road v_sets _ _ _ (lv_sub hl [0] rfl) hG h
    · have h := ite_f c7 h
      refine lv_iconst (v := (0 : Int32)) hx hb dX9_build_68 (by decide) ?_
      refine lv_istore (lv' := [(7, .int (0 : Int32)), (0, .ref (g.2.1 50)), (1, .int x1), (2, .int x2), (3, .int x3), (6, .int x6)]) hx hb dX9_build_69 hl (Nat.le_of_ble_eq_true rfl) rfl (fun ls hl => ?_)
      exact l71 k59 hk59 FUEL x1 x2 x3 x6 (0 : Int32) v_areKindsFound v_isMeasured v_posts v_road v_sets _ _ _ (lv_sub hl [1, 2, 3, 4, 5, 0] rfl) hG h
  have l59 : ∀  (F : Nat) (x1 : Int32) (x2 : Int32) (x3 : Int32) (x6 : Int32) (v_areKindsFound : Int32) (v_isMeasured : Int32) (v_posts : Int32) (v_road : Nat → Int32) (v_sets : Nat → Int32) (H : Heap) (locs : List Loc) (ls : Array Slot), lv_has ls 9 [(0, .ref (g.2.1 50)), (1, .int x1), (2, .int x2), (3, .int x3), (6, .int x6)] → GW g s (mkS σ [(3238, v_areKindsFound), (3212, v_isMeasured), (3203, v_posts)] [] [(54, v_road), (58, v_sets)] []) H locs → M_build_l59 F x1 x2 x3 x6 v_areKindsFound v_isMeasured v_posts v_road v_sets = some (r, w_areKindsFound, w_isMeasured, w_posts, w_road, w_sets) → Wg p l e 2 52 s m args below meth c g (some (.int r)) (mkS σ [(3238, w_areKindsFound), (3212, w_isMeasured), (3203, w_posts)] [] [(54, w_road), (58, w_sets)] []) H locs (F0 m 59 ls []) := by
    intro F
    induction F with
    | zero => intro x1 x2 x3 x6 v_areKindsFound v_isMeasured v_posts v_road v_sets H locs ls hl hG h; exact no_some h
    | succ F ih => intro x1 x2 x3 x6 v_areKindsFound v_isMeasured v_posts v_road v_sets H locs ls hl hG h; exact n59 (fun x1 x2 x3 x6 v_areKindsFound v_isMeasured v_posts v_road v_sets => M_build_l59 F x1 x2 x3 x6 v_areKindsFound v_isMeasured v_posts v_road v_sets) ih x1 x2 x3 x6 v_areKindsFound v_isMeasured v_posts v_road v_sets H locs ls hl hG h
  have n49 : ∀ (x1 : Int32) (x2 : Int32) (x3 : Int32) (x4 : Int64) (v_areKindsFound : Int32) (v_isMeasured : Int32) (v_posts : Int32) (v_road : Nat → Int32) (v_sets : Nat → Int32) (H : Heap) (locs : List Loc) (ls : Array Slot), lv_has ls 9 [(0, .ref (g.2.1 50)), (1, .int x1), (2, .int x2), (3, .int x3), (4, .long x4)] → GW g s (mkS σ [(3238, v_areKindsFound), (3212, v_isMeasured), (3203, v_posts)] [] [(54, v_road), (58, v_sets)] []) H locs → M_build_n49 x1 x2 x3 x4 v_areKindsFound v_isMeasured v_posts v_road v_sets = some (r, w_areKindsFound, w_isMeasured, w_posts, w_road, w_sets) → Wg p l e 2 52 s m args below meth c g (some (.int r)) (mkS σ [(3238, w_areKindsFound), (3212, w_isMeasured), (3203, w_posts)] [] [(54, w_road), (58, w_sets)] []) H locs (F0 m 49 ls []) := by
    intro x1 x2 x3 x4 v_areKindsFound v_isMeasured v_posts v_road v_sets H locs ls hl hG h
    unfold M_build_n49 at h
    refine lv_aload_n hx hb dX9_build_49 rfl (lv_at hl 0 rfl) ?_
    refine lv_lload hx hb dX9_build_50 (lv_at hl 4 rfl) ?_
    refine lv_l2i hx hb dX9_build_52 rfl ?_
    obtain ⟨z8, hc9, h⟩ := bnd_some h
    refine gx_cV (σ' := (mkS σ [(3238, z8.1), (3212, z8.2.1), (3203, z8.2.2.1)] [] [(54, z8.2.2.2), (58, v_sets)] [])) (r := none) (rest := []) (As := [.int (x4.toInt32)]) hS9 (c_M_fresh l g (mkS σ [(3238, v_areKindsFound), (3212, v_isMeasured), (3203, v_posts)] [] [(54, v_road), (58, v_sets)] []) (x4.toInt32) z8.1 z8.2.1 z8.2.2.1 z8.2.2.2 hc9) (mk_mk rfl rfl rfl rfl) (cwV 1 hts (gz_V mw_5_58 mw_5_60 ms_3_4 mw_1_11 mw_5_61) rfl rfl rfl hdV_X9_fresh ⟨Nat.le_of_ble_eq_true rfl, Nat.le_of_ble_eq_true rfl⟩) hK hG (ga_50 g _) rfl rfl rfl hl.1 rfl (Nat.le_of_ble_eq_true rfl) dX9_build_53 (fun H locs hG => ?_)
    refine W.eq (g2 := F0 m 56 ls []) rfl ?_
    refine lv_iconst (v := (0 : Int32)) hx hb dX9_build_56 (by decide) ?_
    refine lv_istore (lv' := [(6, .int (0 : Int32)), (0, .ref (g.2.1 50)), (1, .int x1), (2, .int x2), (3, .int x3), (4, .long x4)]) hx hb dX9_build_57 hl (Nat.le_of_ble_eq_true rfl) rfl (fun ls hl => ?_)
    exact l59 FUEL x1 x2 x3 (0 : Int32) z8.1 z8.2.1 z8.2.2.1 z8.2.2.2 v_sets _ _ _ (lv_sub hl [1, 2, 3, 4, 0] rfl) hG h
  have n41 : ∀ (x1 : Int32) (x2 : Int32) (x3 : Int32) (x4 : Int64) (v_areKindsFound : Int32) (v_isMeasured : Int32) (v_posts : Int32) (v_road : Nat → Int32) (v_sets : Nat → Int32) (H : Heap) (locs : List Loc) (ls : Array Slot), lv_has ls 9 [(0, .ref (g.2.1 50)), (1, .int x1), (2, .int x2), (3, .int x3), (4, .long x4)] → GW g s (mkS σ [(3238, v_areKindsFound), (3212, v_isMeasured), (3203, v_posts)] [] [(54, v_road), (58, v_sets)] []) H locs → M_build_n41 x1 x2 x3 x4 v_areKindsFound v_isMeasured v_posts v_road v_sets = some (r, w_areKindsFound, w_isMeasured, w_posts, w_road, w_sets) → Wg p l e 2 52 s m args below meth c g (some (.int r)) (mkS σ [(3238, w_areKindsFound), (3212, w_isMeasured), (3203, w_posts)] [] [(54, w_road), (58, w_sets)] []) H locs (F0 m 41 ls []) := by
    intro x1 x2 x3 x4 v_areKindsFound v_isMeasured v_posts v_road v_sets H locs ls hl hG h
    unfold M_build_n41 at h
    refine lv_aload_n hx hb dX9_build_41 rfl (lv_at hl 0 rfl) ?_
    refine lv_iload_n hx hb dX9_build_42 rfl (lv_at hl 2 rfl) ?_
    refine lv_iload_n hx hb dX9_build_43 rfl (lv_at hl 3 rfl) ?_
    obtain ⟨z10, hc11, h⟩ := bnd_some h
    refine gx_cV (σ' := (mkS σ [(3238, v_areKindsFound), (3212, v_isMeasured), (3203, v_posts)] [] [(54, v_road), (58, z10.2)] [])) (r := (some (.int z10.1))) (rest := []) (As := [.int x2, .int x3]) hS9 (c_M_findSets l g (mkS σ [(3238, v_areKindsFound), (3212, v_isMeasured), (3203, v_posts)] [] [(54, v_road), (58, v_sets)] []) x2 x3 z10.1 z10.2 hc11) (mk_mk rfl rfl rfl rfl) (cwV 2 hts (gz_V mw_5_99 mw_5_101 ms_3_7 mw_1_11 mw_5_102) rfl rfl rfl hdV_X9_findSets ⟨Nat.le_of_ble_eq_true rfl, Nat.le_of_ble_eq_true rfl⟩) hK hG (ga_50 g _) rfl rfl rfl hl.1 rfl (Nat.le_of_ble_eq_true rfl) dX9_build_44 (fun H locs hG => ?_)
    refine W.eq (g2 := F0 m 47 ls [.int z10.1]) rfl ?_
    refine lv_istore (lv' := [(6, .int z10.1), (0, .ref (g.2.1 50)), (1, .int x1), (2, .int x2), (3, .int x3), (4, .long x4)]) hx hb dX9_build_47 hl (Nat.le_of_ble_eq_true rfl) rfl (fun ls hl => ?_)
    exact n49 x1 x2 x3 x4 v_areKindsFound v_isMeasured v_posts v_road z10.2 _ _ _ (lv_sub hl [1, 2, 3, 4, 5] rfl) hG h
  refine lv_iload_n hx hb dX9_build_0 rfl (lv_at hl 1 rfl) ?_
  refine lv_iload_n hx hb dX9_build_1 rfl (lv_at hl 2 rfl) ?_
  refine lv_iload_n hx hb dX9_build_2 rfl (lv_at hl 3 rfl) ?_
  obtain ⟨z12, hc13, h⟩ := bnd_some h
  refine gx_cS (σ' := (mkS σ [(3238, (σ.1 3238)), (3212, (σ.1 3212)), (3203, (σ.1 3203))] [] [(54, (σ.2.2.1 54)), (58, (σ.2.2.1 58))] [])) (r := (some (.int z12))) (rest := []) (As := [.int x1, .int x2, .int x3]) hS9 (c_M_may l g (mkS σ [(3238, (σ.1 3238)), (3212, (σ.1 3212)), (3203, (σ.1 3203))] [] [(54, (σ.2.2.1 54)), (58, (σ.2.2.1 58))] []) x1 x2 x3 z12 hc13) rfl (va_cwS 3 hts (gz_S mw_5_86 mw_5_87 mw_1_11 mw_5_88) rfl rfl rfl hdS_X9_may ⟨Nat.le_of_ble_eq_true rfl, Nat.le_of_ble_eq_true rfl⟩) hK hG rfl hl.1 rfl (Nat.le_of_ble_eq_true rfl) dX9_build_3 (fun H locs hG => ?_)
  refine W.eq (g2 := F0 m 6 ls [.int z12]) rfl ?_
  refine lv_if_ne (tgt := 11) hx hb dX9_build_6 (by decide) (fun c14 => ?_) (fun c14 => ?_)
  · have h := ite_f c14 h
    refine lv_iload_n hx hb dX9_build_11 rfl (lv_at hl 1 rfl) ?_
    refine lv_iload_n hx hb dX9_build_12 rfl (lv_at hl 2 rfl) ?_
    refine lv_iload_n hx hb dX9_build_13 rfl (lv_at hl 3 rfl) ?_
    obtain ⟨z15, hc16, h⟩ := bnd_some h
    refine gx_cS (σ' := (mkS σ [(3238, (σ.1 3238)), (3212, (σ.1 3212)), (3203, (σ.1 3203))] [] [(54, (σ.2.2.1 54)), (58, (σ.2.2.1 58))] [])) (r := (some (.long z15))) (rest := []) (As := [.int x1, .int x2, .int x3]) hS9 (c_M_sizeOf l g (mkS σ [(3238, (σ.1 3238)), (3212, (σ.1 3212)), (3203, (σ.1 3203))] [] [(54, (σ.2.2.1 54)), (58, (σ.2.2.1 58))] []) x1 x2 x3 z15 hc16) rfl (va_cwS 3 hts (gz_S mw_5_89 mw_5_90 mw_1_11 mw_5_91) rfl rfl rfl hdS_X9_sizeOf ⟨Nat.le_of_ble_eq_true rfl, Nat.le_of_ble_eq_true rfl⟩) hK hG rfl hl.1 rfl (Nat.le_of_ble_eq_true rfl) dX9_build_14 (fun H locs hG => ?_)
    refine W.eq (g2 := F0 m 17 ls [.long z15]) rfl ?_
    refine lv_lstore (lv' := [(4, .long z15), (0, .ref (g.2.1 50)), (1, .int x1), (2, .int x2), (3, .int x3)]) hx hb dX9_build_17 hl (Nat.le_of_ble_eq_true rfl) rfl (fun ls hl => ?_)
    refine lv_lload hx hb dX9_build_19 (lv_at hl 0 rfl) ?_
    refine lv_ldc2 hx hb hown hw1 dX9_build_21 ?_
    refine W.lcmp hx hb dX9_build_24 ?_
    refine lv_if_le (tgt := 31) hx hb dX9_build_25 (by decide) (fun c17 => ?_) (fun c17 => ?_)
    · have h := ite_t c17 h
      refine lv_iload_n hx hb dX9_build_31 rfl (lv_at hl 2 rfl) ?_
      refine lv_iconst (v := (3 : Int32)) hx hb dX9_build_32 (by decide) ?_
      refine lv_icmp_eq (tgt := 41) hx hb dX9_build_33 (by decide) (fun c18 => ?_) (fun c18 => ?_)
      · have h := ite_t c18 h
        exact n41 x1 x2 x3 z15 (σ.1 3238) (σ.1 3212) (σ.1 3203) (σ.2.2.1 54) (σ.2.2.1 58) _ _ _ (lv_sub hl [1, 2, 3, 4, 0] rfl) hG h
      · have h := ite_f c18 h
        refine lv_iload_n hx hb dX9_build_36 rfl (lv_at hl 2 rfl) ?_
        refine lv_iconst (v := (4 : Int32)) hx hb dX9_build_37 (by decide) ?_
        refine lv_icmp_ne (tgt := 49) hx hb dX9_build_38 (by decide) (fun c19 => ?_) (fun c19 => ?_)
        · have h := ite_f c19 h
          exact n49 x1 x2 x3 z15 (σ.1 3238) (σ.1 3212) (σ.1 3203) (σ.2.2.1 54) (σ.2.2.1 58) _ _ _ (lv_sub hl [1, 2, 3, 4, 0] rfl) hG h
        · have h := ite_t c19 h
          exact n41 x1 x2 x3 z15 (σ.1 3238) (σ.1 3212) (σ.1 3203) (σ.2.2.1 54) (σ.2.2.1 58) _ _ _ (lv_sub hl [1, 2, 3, 4, 0] rfl) hG h
    · have h := ite_f c17 h
      refine lv_bipush (v := (-2 : Int32)) hx hb dX9_build_28 (by decide) ?_
      cases h
      exact gx_iret hx hb hr hlocks hG dX9_build_30
  · have h := ite_t c14 h
    refine lv_iconst (v := (-1 : Int32)) hx hb dX9_build_9 (by decide) ?_
    cases h
    exact gx_iret hx hb hr hlocks hG dX9_build_10

set_option maxHeartbeats 4000000 in
set_option maxRecDepth 100000 in
theorem c_M_a (l : Launch) (g : GC) (σ : St) (x1 : Int32) (r : Int32) (h : M_a x1 (σ.2.2.1 56) (σ.2.2.1 57) = some r) : Cn l g yX9_a (Cond.code yX9_a cX9_a 2 (some .int) :: wG) 0 0 [.ref (g.2.1 50), .int x1] σ (some (.int r)) σ := by
  unfold Cn
  refine Met.ofW (cc := cX9_a) (maxL := 2) (ret := (some .int)) (by decide) rfl ?_
  intro p e s m args below meth c s₁ B hml hv
  obtain ⟨hargs, hP0, hK⟩ := hv
  have hx := B.exec
  have hb := B.bytes
  have hr := B.returns
  have hts : ∀ w ∈ wG, w.before args s = true := fun w h => atoms_spec (ws := (Cond.code yX9_a cX9_a 2 (some .int) :: wG)) B.pre w (List.mem_cons_of_mem _ h)
  have hown : s.vm.findClass RX9 = some m.cls := findClass_of_methodNamed B.named
  have hlocks := B.notSynchronized
  have hw0 := hts _ mw_4_148
  have hw1 := hts _ mw_4_149
  have hf9 : entryFrame m args 2 = _ := (congrArg (fun a => entryFrame m a 2) hargs).trans (lg_entry_eq m [.ref (g.2.1 50), .int x1] 2)
  show Wg p l e 0 0 s m args below meth c g (some (.int r)) σ s.heap [] (entryFrame m args 2)
  rw [hf9]
  have hl := lv_entry ([.ref (g.2.1 50), .int x1]) (n := 2) (Nat.le_of_ble_eq_true rfl)
  generalize (lg_sl ([.ref (g.2.1 50), .int x1]) ++ List.replicate (2 - (lg_sl ([.ref (g.2.1 50), .int x1])).length) Slot.unset).toArray = ls at hl ⊢
  have hl : lv_has ls 2 [(0, .ref (g.2.1 50)), (1, .int x1)] := hl
  have hG : GW g s σ s.heap [] := ⟨hP0, va_S.rf⟩
  unfold M_a at h
  refine lv_aload_n hx hb dX9_a_0 rfl (lv_at hl 0 rfl) ?_
  refine gx_get (v := .ref (g.2.1 56)) (C := RX9) (T := TX9) (N := 44) hx hb hts mc_X9 hown hK hG (ga_50 g _) rfl 9 (by decide) hw0 rfl rfl dX9_a_1 ?_
  refine lv_iconst (v := (0 : Int32)) hx hb dX9_a_4 (by decide) ?_
  refine gx_iald (f := (σ.2.2.1 56)) hx hb hK hG (ga_56 g _) (by decide) dX9_a_5 ?_
  refine lv_aload_n hx hb dX9_a_6 rfl (lv_at hl 0 rfl) ?_
  refine gx_get (v := .ref (g.2.1 56)) (C := RX9) (T := TX9) (N := 44) hx hb hts mc_X9 hown hK hG (ga_50 g _) rfl 9 (by decide) hw0 rfl rfl dX9_a_7 ?_
  refine lv_iload_n hx hb dX9_a_10 rfl (lv_at hl 1 rfl) ?_
  obtain ⟨hg1, h⟩ := gd_some h
  refine gx_iald (f := (σ.2.2.1 56)) hx hb hK hG (ga_56 g _) hg1 dX9_a_11 ?_
  refine lv_isub hx hb dX9_a_12 ?_
  refine lv_aload_n hx hb dX9_a_13 rfl (lv_at hl 0 rfl) ?_
  refine gx_get (v := .ref (g.2.1 57)) (C := RX9) (T := TX9) (N := 44) hx hb hts mc_X9 hown hK hG (ga_50 g _) rfl 10 (by decide) hw1 rfl rfl dX9_a_14 ?_
  refine lv_iload_n hx hb dX9_a_17 rfl (lv_at hl 1 rfl) ?_
  refine gx_iald (f := (σ.2.2.1 57)) hx hb hK hG (ga_57 g _) hg1 dX9_a_18 ?_
  refine lv_isub hx hb dX9_a_19 ?_
  cases h
  exact gx_iret hx hb hr hlocks hG dX9_a_20

set_option maxHeartbeats 4000000 in
set_option maxRecDepth 100000 in
theorem c_M_firstLaws (l : Launch) (g : GC) (σ : St) (r : Int32) (w_all : Int64) (w_sizes : Nat → Int64) (h : M_firstLaws (σ.1 3208) (σ.2.1 3224) (σ.2.2.1 56) (σ.2.2.1 57) (σ.2.2.2 65) = some (r, w_all, w_sizes)) : Cn l g yX9_firstLaws (Cond.code yX9_firstLaws cX9_firstLaws 7 (some .int) :: wG) 1 21 [.ref (g.2.1 50)] σ (some (.int r)) (mkS σ [] [(3224, w_all)] [] [(65, w_sizes)]) := by
  unfold Cn
  refine Met.ofW (cc := cX9_firstLaws) (maxL := 7) (ret := (some .int)) (by decide) rfl ?_
  intro p e s m args below meth c s₁ B hml hv
  obtain ⟨hargs, hP0, hK⟩ := hv
  have hx := B.exec
  have hb := B.bytes
  have hr := B.returns
  have hts : ∀ w ∈ wG, w.before args s = true := fun w h => atoms_spec (ws := (Cond.code yX9_firstLaws cX9_firstLaws 7 (some .int) :: wG)) B.pre w (List.mem_cons_of_mem _ h)
  have hown : s.vm.findClass RX9 = some m.cls := findClass_of_methodNamed B.named
  have hlocks := B.notSynchronized
  have hS9 : CallFix p m c cX9_firstLaws 7 s args wG RX9 := ⟨hx, hb, hml, hown, hts⟩
  have hw0 := hts _ mw_4_147
  have hw1 := hts _ mw_4_148
  have hw2 := hts _ mw_4_149
  have hw3 := hts _ mw_4_163
  have hw4 := hts _ mw_5_220
  have hw5 := hts _ mw_4_162
  have hf9 : entryFrame m args 7 = _ := (congrArg (fun a => entryFrame m a 7) hargs).trans (lg_entry_eq m [.ref (g.2.1 50)] 7)
  show Wg p l e 1 21 s m args below meth c g (some (.int r)) (mkS σ [] [(3224, w_all)] [] [(65, w_sizes)]) s.heap [] (entryFrame m args 7)
  rw [hf9]
  have hl := lv_entry ([.ref (g.2.1 50)]) (n := 7) (Nat.le_of_ble_eq_true rfl)
  generalize (lg_sl ([.ref (g.2.1 50)]) ++ List.replicate (7 - (lg_sl ([.ref (g.2.1 50)])).length) Slot.unset).toArray = ls at hl ⊢
  have hl : lv_has ls 7 [(0, .ref (g.2.1 50))] := hl
  have hG : GW g s σ s.heap [] := ⟨hP0, va_S.rf⟩
  have hG : GW g s (mkS σ [] [(3224, (σ.2.1 3224))] [] [(65, (σ.2.2.2 65))]) s.heap [] := GW_self [] [3224] [] [65] hG
  unfold M_firstLaws at h
  have n169 : ∀ (k23 : Int32 → Int32 → Int32 → Int32 → Int64 → (Nat → Int64) → Option (Int32 × Int64 × (Nat → Int64))) (hk23 : ∀ (x1 : Int32) (x2 : Int32) (x3 : Int32) (x4 : Int32) (v_all : Int64) (v_sizes : Nat → Int64) (H : Heap) (locs : List Loc) (ls : Array Slot), lv_has ls 7 [(0, .ref (g.2.1 50)), (1, .int x1), (2, .int x2), (3, .int x3), (4, .int x4)] → GW g s (mkS σ [] [(3224, v_all)] [] [(65, v_sizes)]) H locs → k23 x1 x2 x3 x4 v_all v_sizes = some (r, w_all, w_sizes) → Wg p l e 1 21 s m args below meth c g (some (.int r)) (mkS σ [] [(3224, w_all)] [] [(65, w_sizes)]) H locs (F0 m 23 ls [])) (x1 : Int32) (x2 : Int32) (x4 : Int32) (t0 : Int32) (v_all : Int64) (v_sizes : Nat → Int64) (H : Heap) (locs : List Loc) (ls : Array Slot), lv_has ls 7 [(0, .ref (g.2.1 50)), (1, .int x1), (2, .int x2), (4, .int x4)] → GW g s (mkS σ [] [(3224, v_all)] [] [(65, v_sizes)]) H locs → M_firstLaws_n169 k23 x1 x2 x4 t0 v_all v_sizes = some (r, w_all, w_sizes) → Wg p l e 1 21 s m args below meth c g (some (.int r)) (mkS σ [] [(3224, w_all)] [] [(65, w_sizes)]) H locs (F0 m 169 ls [.int t0]) := by
    intro k23 hk23 x1 x2 x4 t0 v_all v_sizes H locs ls hl hG h
    unfold M_firstLaws_n169 at h
    refine lv_istore_n (lv' := [(3, .int t0), (0, .ref (g.2.1 50)), (1, .int x1), (2, .int x2), (4, .int x4)]) hx hb dX9_firstLaws_169 rfl hl (Nat.le_of_ble_eq_true rfl) rfl (fun ls hl => ?_)
    refine lv_iinc (v := (x4 + (1 : Int32))) (lv' := [(4, .int (x4 + (1 : Int32))), (3, .int t0), (0, .ref (g.2.1 50)), (1, .int x1), (2, .int x2)]) hx hb dX9_firstLaws_170 hl (k := 4) rfl (congrArg (fun z => x4 + z) (by decide)) (Nat.le_of_ble_eq_true rfl) rfl (fun ls hl => ?_)
    refine lv_goto (tgt := 23) hx hb dX9_firstLaws_173 (by decide) ?_
    exact hk23 x1 x2 t0 (x4 + (1 : Int32)) v_all v_sizes _ _ _ (lv_sub hl [2, 3, 4, 1, 0] rfl) hG h
  have n164 : ∀ (k23 : Int32 → Int32 → Int32 → Int32 → Int64 → (Nat → Int64) → Option (Int32 × Int64 × (Nat → Int64))) (hk23 : ∀ (x1 : Int32) (x2 : Int32) (x3 : Int32) (x4 : Int32) (v_all : Int64) (v_sizes : Nat → Int64) (H : Heap) (locs : List Loc) (ls : Array Slot), lv_has ls 7 [(0, .ref (g.2.1 50)), (1, .int x1), (2, .int x2), (3, .int x3), (4, .int x4)] → GW g s (mkS σ [] [(3224, v_all)] [] [(65, v_sizes)]) H locs → k23 x1 x2 x3 x4 v_all v_sizes = some (r, w_all, w_sizes) → Wg p l e 1 21 s m args below meth c g (some (.int r)) (mkS σ [] [(3224, w_all)] [] [(65, w_sizes)]) H locs (F0 m 23 ls [])) (x1 : Int32) (x2 : Int32) (x4 : Int32) (v_all : Int64) (v_sizes : Nat → Int64) (H : Heap) (locs : List Loc) (ls : Array Slot), lv_has ls 7 [(0, .ref (g.2.1 50)), (1, .int x1), (2, .int x2), (4, .int x4)] → GW g s (mkS σ [] [(3224, v_all)] [] [(65, v_sizes)]) H locs → M_firstLaws_n164 k23 x1 x2 x4 v_all v_sizes = some (r, w_all, w_sizes) → Wg p l e 1 21 s m args below meth c g (some (.int r)) (mkS σ [] [(3224, w_all)] [] [(65, w_sizes)]) H locs (F0 m 164 ls []) := by
    intro k23 hk23 x1 x2 x4 v_all v_sizes H locs ls hl hG h
    unfold M_firstLaws_n164 at h
    refine lv_iconst (v := (1 : Int32)) hx hb dX9_firstLaws_164 (by decide) ?_
    refine lv_goto (tgt := 169) hx hb dX9_firstLaws_165 (by decide) ?_
    exact n169 k23 hk23 x1 x2 x4 (1 : Int32) v_all v_sizes _ _ _ (lv_sub hl [0, 1, 2, 3] rfl) hG h
  have n168 : ∀ (k23 : Int32 → Int32 → Int32 → Int32 → Int64 → (Nat → Int64) → Option (Int32 × Int64 × (Nat → Int64))) (hk23 : ∀ (x1 : Int32) (x2 : Int32) (x3 : Int32) (x4 : Int32) (v_all : Int64) (v_sizes : Nat → Int64) (H : Heap) (locs : List Loc) (ls : Array Slot), lv_has ls 7 [(0, .ref (g.2.1 50)), (1, .int x1), (2, .int x2), (3, .int x3), (4, .int x4)] → GW g s (mkS σ [] [(3224, v_all)] [] [(65, v_sizes)]) H locs → k23 x1 x2 x3 x4 v_all v_sizes = some (r, w_all, w_sizes) → Wg p l e 1 21 s m args below meth c g (some (.int r)) (mkS σ [] [(3224, w_all)] [] [(65, w_sizes)]) H locs (F0 m 23 ls [])) (x1 : Int32) (x2 : Int32) (x4 : Int32) (v_all : Int64) (v_sizes : Nat → Int64) (H : Heap) (locs : List Loc) (ls : Array Slot), lv_has ls 7 [(0, .ref (g.2.1 50)), (1, .int x1), (2, .int x2), (4, .int x4)] → GW g s (mkS σ [] [(3224, v_all)] [] [(65, v_sizes)]) H locs → M_firstLaws_n168 k23 x1 x2 x4 v_all v_sizes = some (r, w_all, w_sizes) → Wg p l e 1 21 s m args below meth c g (some (.int r)) (mkS σ [] [(3224, w_all)] [] [(65, w_sizes)]) H locs (F0 m 168 ls []) := by
    intro k23 hk23 x1 x2 x4 v_all v_sizes H locs ls hl hG h
    unfold M_firstLaws_n168 at h
    refine lv_iconst (v := (0 : Int32)) hx hb dX9_firstLaws_168 (by decide) ?_
    exact n169 k23 hk23 x1 x2 x4 (0 : Int32) v_all v_sizes _ _ _ (lv_sub hl [0, 1, 2, 3] rfl) hG h
  have n134 : ∀ (k23 : Int32 → Int32 → Int32 → Int32 → Int64 → (Nat → Int64) → Option (Int32 × Int64 × (Nat → Int64))) (hk23 : ∀ (x1 : Int32) (x2 : Int32) (x3 : Int32) (x4 : Int32) (v_all : Int64) (v_sizes : Nat → Int64) (H : Heap) (locs : List Loc) (ls : Array Slot), lv_has ls 7 [(0, .ref (g.2.1 50)), (1, .int x1), (2, .int x2), (3, .int x3), (4, .int x4)] → GW g s (mkS σ [] [(3224, v_all)] [] [(65, v_sizes)]) H locs → k23 x1 x2 x3 x4 v_all v_sizes = some (r, w_all, w_sizes) → Wg p l e 1 21 s m args below meth c g (some (.int r)) (mkS σ [] [(3224, w_all)] [] [(65, w_sizes)]) H locs (F0 m 23 ls [])) (x1 : Int32) (x2 : Int32) (x4 : Int32) (v_all : Int64) (v_sizes : Nat → Int64) (H : Heap) (locs : List Loc) (ls : Array Slot), lv_has ls 7 [(0, .ref (g.2.1 50)), (1, .int x1), (2, .int x2), (4, .int x4)] → GW g s (mkS σ [] [(3224, v_all)] [] [(65, v_sizes)]) H locs → M_firstLaws_n134 k23 (σ.1 3208) (σ.2.2.1 56) x1 x2 x4 v_all v_sizes = some (r, w_all, w_sizes) → Wg p l e 1 21 s m args below meth c g (some (.int r)) (mkS σ [] [(3224, w_all)] [] [(65, w_sizes)]) H locs (F0 m 134 ls []) := by
    intro k23 hk23 x1 x2 x4 v_all v_sizes H locs ls hl hG h
    unfold M_firstLaws_n134 at h
    refine lv_iload hx hb dX9_firstLaws_134 (lv_at hl 3 rfl) ?_
    refine lv_iconst (v := (1 : Int32)) hx hb dX9_firstLaws_136 (by decide) ?_
    refine lv_iadd hx hb dX9_firstLaws_137 ?_
    refine lv_aload_n hx hb dX9_firstLaws_138 rfl (lv_at hl 0 rfl) ?_
    refine gx_get (v := .int (σ.1 3208)) (C := RX9) (T := TX9) (N := 44) hx hb hts mc_X9 hown hK hG (ga_50 g _) rfl 8 (by decide) hw0 rfl rfl dX9_firstLaws_139 ?_
    refine lv_icmp_ge (tgt := 164) hx hb dX9_firstLaws_142 (by decide) (fun c1 => ?_) (fun c1 => ?_)
    · have h := ite_t c1 h
      exact n164 k23 hk23 x1 x2 x4 v_all v_sizes _ _ _ (lv_sub hl [0, 1, 2, 3] rfl) hG h
    · have h := ite_f c1 h
      refine lv_aload_n hx hb dX9_firstLaws_145 rfl (lv_at hl 0 rfl) ?_
      refine gx_get (v := .ref (g.2.1 56)) (C := RX9) (T := TX9) (N := 44) hx hb hts mc_X9 hown hK hG (ga_50 g _) rfl 9 (by decide) hw1 rfl rfl dX9_firstLaws_146 ?_
      refine lv_iload hx hb dX9_firstLaws_149 (lv_at hl 3 rfl) ?_
      obtain ⟨hg2, h⟩ := gd_some h
      refine gx_iald (f := (σ.2.2.1 56)) hx hb hK hG (ga_56 g _) hg2 dX9_firstLaws_151 ?_
      refine lv_aload_n hx hb dX9_firstLaws_152 rfl (lv_at hl 0 rfl) ?_
      refine gx_get (v := .ref (g.2.1 56)) (C := RX9) (T := TX9) (N := 44) hx hb hts mc_X9 hown hK hG (ga_50 g _) rfl 9 (by decide) hw1 rfl rfl dX9_firstLaws_153 ?_
      refine lv_iload hx hb dX9_firstLaws_156 (lv_at hl 3 rfl) ?_
      refine lv_iconst (v := (1 : Int32)) hx hb dX9_firstLaws_158 (by decide) ?_
      refine lv_iadd hx hb dX9_firstLaws_159 ?_
      obtain ⟨hg3, h⟩ := gd_some h
      refine gx_iald (f := (σ.2.2.1 56)) hx hb hK hG (ga_56 g _) hg3 dX9_firstLaws_160 ?_
      refine lv_icmp_lt (tgt := 168) hx hb dX9_firstLaws_161 (by decide) (fun c4 => ?_) (fun c4 => ?_)
      · have h := ite_t c4 h
        exact n168 k23 hk23 x1 x2 x4 v_all v_sizes _ _ _ (lv_sub hl [0, 1, 2, 3] rfl) hG h
      · have h := ite_f c4 h
        exact n164 k23 hk23 x1 x2 x4 v_all v_sizes _ _ _ (lv_sub hl [0, 1, 2, 3] rfl) hG h
  have n96 : ∀ (k23 : Int32 → Int32 → Int32 → Int32 → Int64 → (Nat → Int64) → Option (Int32 × Int64 × (Nat → Int64))) (hk23 : ∀ (x1 : Int32) (x2 : Int32) (x3 : Int32) (x4 : Int32) (v_all : Int64) (v_sizes : Nat → Int64) (H : Heap) (locs : List Loc) (ls : Array Slot), lv_has ls 7 [(0, .ref (g.2.1 50)), (1, .int x1), (2, .int x2), (3, .int x3), (4, .int x4)] → GW g s (mkS σ [] [(3224, v_all)] [] [(65, v_sizes)]) H locs → k23 x1 x2 x3 x4 v_all v_sizes = some (r, w_all, w_sizes) → Wg p l e 1 21 s m args below meth c g (some (.int r)) (mkS σ [] [(3224, w_all)] [] [(65, w_sizes)]) H locs (F0 m 23 ls [])) (x1 : Int32) (x3 : Int32) (x4 : Int32) (t0 : Int32) (v_all : Int64) (v_sizes : Nat → Int64) (H : Heap) (locs : List Loc) (ls : Array Slot), lv_has ls 7 [(0, .ref (g.2.1 50)), (1, .int x1), (3, .int x3), (4, .int x4)] → GW g s (mkS σ [] [(3224, v_all)] [] [(65, v_sizes)]) H locs → M_firstLaws_n96 k23 (σ.1 3208) (σ.2.2.1 56) (σ.2.2.1 57) x1 x3 x4 t0 v_all v_sizes = some (r, w_all, w_sizes) → Wg p l e 1 21 s m args below meth c g (some (.int r)) (mkS σ [] [(3224, w_all)] [] [(65, w_sizes)]) H locs (F0 m 96 ls [.int t0]) := by
    intro k23 hk23 x1 x3 x4 t0 v_all v_sizes H locs ls hl hG h
    unfold M_firstLaws_n96 at h
    refine lv_istore_n (lv' := [(2, .int t0), (0, .ref (g.2.1 50)), (1, .int x1), (3, .int x3), (4, .int x4)]) hx hb dX9_firstLaws_96 rfl hl (Nat.le_of_ble_eq_true rfl) rfl (fun ls hl => ?_)
    refine lv_iload_n hx hb dX9_firstLaws_97 rfl (lv_at hl 3 rfl) ?_
    refine lv_if_eq (tgt := 168) hx hb dX9_firstLaws_98 (by decide) (fun c5 => ?_) (fun c5 => ?_)
    · have h := ite_t c5 h
      exact n168 k23 hk23 x1 t0 x4 v_all v_sizes _ _ _ (lv_sub hl [1, 2, 0, 4] rfl) hG h
    · have h := ite_f c5 h
      refine lv_iload hx hb dX9_firstLaws_101 (lv_at hl 4 rfl) ?_
      refine lv_if_eq (tgt := 134) hx hb dX9_firstLaws_103 (by decide) (fun c6 => ?_) (fun c6 => ?_)
      · have h := ite_t c6 h
        exact n134 k23 hk23 x1 t0 x4 v_all v_sizes _ _ _ (lv_sub hl [1, 2, 0, 4] rfl) hG h
      · have h := ite_f c6 h
        refine lv_iload hx hb dX9_firstLaws_106 (lv_at hl 4 rfl) ?_
        refine lv_aload_n hx hb dX9_firstLaws_108 rfl (lv_at hl 1 rfl) ?_
        refine gx_get (v := .int (σ.1 3208)) (C := RX9) (T := TX9) (N := 44) hx hb hts mc_X9 hown hK hG (ga_50 g _) rfl 8 (by decide) hw0 rfl rfl dX9_firstLaws_109 ?_
        refine lv_icmp_eq (tgt := 134) hx hb dX9_firstLaws_112 (by decide) (fun c7 => ?_) (fun c7 => ?_)
        · have h := ite_t c7 h
          exact n134 k23 hk23 x1 t0 x4 v_all v_sizes _ _ _ (lv_sub hl [1, 2, 0, 4] rfl) hG h
        · have h := ite_f c7 h
          refine lv_aload_n hx hb dX9_firstLaws_115 rfl (lv_at hl 1 rfl) ?_
          refine gx_get (v := .ref (g.2.1 57)) (C := RX9) (T := TX9) (N := 44) hx hb hts mc_X9 hown hK hG (ga_50 g _) rfl 10 (by decide) hw2 rfl rfl dX9_firstLaws_116 ?_
          refine lv_iload hx hb dX9_firstLaws_119 (lv_at hl 4 rfl) ?_
          obtain ⟨hg8, h⟩ := gd_some h
          refine gx_iald (f := (σ.2.2.1 57)) hx hb hK hG (ga_57 g _) hg8 dX9_firstLaws_121 ?_
          refine lv_aload_n hx hb dX9_firstLaws_122 rfl (lv_at hl 1 rfl) ?_
          refine gx_get (v := .ref (g.2.1 57)) (C := RX9) (T := TX9) (N := 44) hx hb hts mc_X9 hown hK hG (ga_50 g _) rfl 10 (by decide) hw2 rfl rfl dX9_firstLaws_123 ?_
          refine lv_iload hx hb dX9_firstLaws_126 (lv_at hl 4 rfl) ?_
          refine lv_iconst (v := (1 : Int32)) hx hb dX9_firstLaws_128 (by decide) ?_
          refine lv_iadd hx hb dX9_firstLaws_129 ?_
          obtain ⟨hg9, h⟩ := gd_some h
          refine gx_iald (f := (σ.2.2.1 57)) hx hb hK hG (ga_57 g _) hg9 dX9_firstLaws_130 ?_
          refine lv_icmp_gt (tgt := 168) hx hb dX9_firstLaws_131 (by decide) (fun c10 => ?_) (fun c10 => ?_)
          · have h := ite_t c10 h
            exact n168 k23 hk23 x1 t0 x4 v_all v_sizes _ _ _ (lv_sub hl [1, 2, 0, 4] rfl) hG h
          · have h := ite_f c10 h
            exact n134 k23 hk23 x1 t0 x4 v_all v_sizes _ _ _ (lv_sub hl [1, 2, 0, 4] rfl) hG h
  have n95 : ∀ (k23 : Int32 → Int32 → Int32 → Int32 → Int64 → (Nat → Int64) → Option (Int32 × Int64 × (Nat → Int64))) (hk23 : ∀ (x1 : Int32) (x2 : Int32) (x3 : Int32) (x4 : Int32) (v_all : Int64) (v_sizes : Nat → Int64) (H : Heap) (locs : List Loc) (ls : Array Slot), lv_has ls 7 [(0, .ref (g.2.1 50)), (1, .int x1), (2, .int x2), (3, .int x3), (4, .int x4)] → GW g s (mkS σ [] [(3224, v_all)] [] [(65, v_sizes)]) H locs → k23 x1 x2 x3 x4 v_all v_sizes = some (r, w_all, w_sizes) → Wg p l e 1 21 s m args below meth c g (some (.int r)) (mkS σ [] [(3224, w_all)] [] [(65, w_sizes)]) H locs (F0 m 23 ls [])) (x1 : Int32) (x3 : Int32) (x4 : Int32) (v_all : Int64) (v_sizes : Nat → Int64) (H : Heap) (locs : List Loc) (ls : Array Slot), lv_has ls 7 [(0, .ref (g.2.1 50)), (1, .int x1), (3, .int x3), (4, .int x4)] → GW g s (mkS σ [] [(3224, v_all)] [] [(65, v_sizes)]) H locs → M_firstLaws_n95 k23 (σ.1 3208) (σ.2.2.1 56) (σ.2.2.1 57) x1 x3 x4 v_all v_sizes = some (r, w_all, w_sizes) → Wg p l e 1 21 s m args below meth c g (some (.int r)) (mkS σ [] [(3224, w_all)] [] [(65, w_sizes)]) H locs (F0 m 95 ls []) := by
    intro k23 hk23 x1 x3 x4 v_all v_sizes H locs ls hl hG h
    unfold M_firstLaws_n95 at h
    refine lv_iconst (v := (0 : Int32)) hx hb dX9_firstLaws_95 (by decide) ?_
    exact n96 k23 hk23 x1 x3 x4 (0 : Int32) v_all v_sizes _ _ _ (lv_sub hl [0, 1, 2, 3] rfl) hG h
  have n77 : ∀ (k23 : Int32 → Int32 → Int32 → Int32 → Int64 → (Nat → Int64) → Option (Int32 × Int64 × (Nat → Int64))) (hk23 : ∀ (x1 : Int32) (x2 : Int32) (x3 : Int32) (x4 : Int32) (v_all : Int64) (v_sizes : Nat → Int64) (H : Heap) (locs : List Loc) (ls : Array Slot), lv_has ls 7 [(0, .ref (g.2.1 50)), (1, .int x1), (2, .int x2), (3, .int x3), (4, .int x4)] → GW g s (mkS σ [] [(3224, v_all)] [] [(65, v_sizes)]) H locs → k23 x1 x2 x3 x4 v_all v_sizes = some (r, w_all, w_sizes) → Wg p l e 1 21 s m args below meth c g (some (.int r)) (mkS σ [] [(3224, w_all)] [] [(65, w_sizes)]) H locs (F0 m 23 ls [])) (x2 : Int32) (x3 : Int32) (x4 : Int32) (t0 : Int32) (v_all : Int64) (v_sizes : Nat → Int64) (H : Heap) (locs : List Loc) (ls : Array Slot), lv_has ls 7 [(0, .ref (g.2.1 50)), (2, .int x2), (3, .int x3), (4, .int x4)] → GW g s (mkS σ [] [(3224, v_all)] [] [(65, v_sizes)]) H locs → M_firstLaws_n77 k23 (σ.1 3208) (σ.2.2.1 56) (σ.2.2.1 57) x2 x3 x4 t0 v_all v_sizes = some (r, w_all, w_sizes) → Wg p l e 1 21 s m args below meth c g (some (.int r)) (mkS σ [] [(3224, w_all)] [] [(65, w_sizes)]) H locs (F0 m 77 ls [.int t0]) := by
    intro k23 hk23 x2 x3 x4 t0 v_all v_sizes H locs ls hl hG h
    unfold M_firstLaws_n77 at h
    refine lv_istore_n (lv' := [(1, .int t0), (0, .ref (g.2.1 50)), (2, .int x2), (3, .int x3), (4, .int x4)]) hx hb dX9_firstLaws_77 rfl hl (Nat.le_of_ble_eq_true rfl) rfl (fun ls hl => ?_)
    refine lv_iload_n hx hb dX9_firstLaws_78 rfl (lv_at hl 2 rfl) ?_
    refine lv_if_eq (tgt := 95) hx hb dX9_firstLaws_79 (by decide) (fun c11 => ?_) (fun c11 => ?_)
    · have h := ite_t c11 h
      exact n95 k23 hk23 t0 x3 x4 v_all v_sizes _ _ _ (lv_sub hl [1, 0, 3, 4] rfl) hG h
    · have h := ite_f c11 h
      refine lv_aload_n hx hb dX9_firstLaws_82 rfl (lv_at hl 1 rfl) ?_
      refine lv_iload hx hb dX9_firstLaws_83 (lv_at hl 4 rfl) ?_
      obtain ⟨z12, hc13, h⟩ := bnd_some h
      refine gx_cV (σ' := (mkS σ [] [(3224, v_all)] [] [(65, v_sizes)])) (r := (some (.int z12))) (rest := []) (As := [.int x4]) hS9 (c_M_a l g (mkS σ [] [(3224, v_all)] [] [(65, v_sizes)]) x4 z12 hc13) rfl (cwV 1 hts (gz_V mw_5_216 mw_5_218 ms_4_9 mw_1_11 mw_5_219) rfl rfl rfl hdV_X9_a ⟨Nat.le_of_ble_eq_true rfl, Nat.le_of_ble_eq_true rfl⟩) hK hG (ga_50 g _) rfl rfl rfl hl.1 rfl (Nat.le_of_ble_eq_true rfl) dX9_firstLaws_85 (fun H locs hG => ?_)
      refine W.eq (g2 := F0 m 88 ls [.int z12]) rfl ?_
      refine lv_if_lt (tgt := 95) hx hb dX9_firstLaws_88 (by decide) (fun c14 => ?_) (fun c14 => ?_)
      · have h := ite_t c14 h
        exact n95 k23 hk23 t0 x3 x4 v_all v_sizes _ _ _ (lv_sub hl [1, 0, 3, 4] rfl) hG h
      · have h := ite_f c14 h
        refine lv_iconst (v := (1 : Int32)) hx hb dX9_firstLaws_91 (by decide) ?_
        refine lv_goto (tgt := 96) hx hb dX9_firstLaws_92 (by decide) ?_
        exact n96 k23 hk23 t0 x3 x4 (1 : Int32) v_all v_sizes _ _ _ (lv_sub hl [1, 0, 3, 4] rfl) hG h
  have n72 : ∀ (k23 : Int32 → Int32 → Int32 → Int32 → Int64 → (Nat → Int64) → Option (Int32 × Int64 × (Nat → Int64))) (hk23 : ∀ (x1 : Int32) (x2 : Int32) (x3 : Int32) (x4 : Int32) (v_all : Int64) (v_sizes : Nat → Int64) (H : Heap) (locs : List Loc) (ls : Array Slot), lv_has ls 7 [(0, .ref (g.2.1 50)), (1, .int x1), (2, .int x2), (3, .int x3), (4, .int x4)] → GW g s (mkS σ [] [(3224, v_all)] [] [(65, v_sizes)]) H locs → k23 x1 x2 x3 x4 v_all v_sizes = some (r, w_all, w_sizes) → Wg p l e 1 21 s m args below meth c g (some (.int r)) (mkS σ [] [(3224, w_all)] [] [(65, w_sizes)]) H locs (F0 m 23 ls [])) (x2 : Int32) (x3 : Int32) (x4 : Int32) (v_all : Int64) (v_sizes : Nat → Int64) (H : Heap) (locs : List Loc) (ls : Array Slot), lv_has ls 7 [(0, .ref (g.2.1 50)), (2, .int x2), (3, .int x3), (4, .int x4)] → GW g s (mkS σ [] [(3224, v_all)] [] [(65, v_sizes)]) H locs → M_firstLaws_n72 k23 (σ.1 3208) (σ.2.2.1 56) (σ.2.2.1 57) x2 x3 x4 v_all v_sizes = some (r, w_all, w_sizes) → Wg p l e 1 21 s m args below meth c g (some (.int r)) (mkS σ [] [(3224, w_all)] [] [(65, w_sizes)]) H locs (F0 m 72 ls []) := by
    intro k23 hk23 x2 x3 x4 v_all v_sizes H locs ls hl hG h
    unfold M_firstLaws_n72 at h
    refine lv_iconst (v := (1 : Int32)) hx hb dX9_firstLaws_72 (by decide) ?_
    refine lv_goto (tgt := 77) hx hb dX9_firstLaws_73 (by decide) ?_
    exact n77 k23 hk23 x2 x3 x4 (1 : Int32) v_all v_sizes _ _ _ (lv_sub hl [0, 1, 2, 3] rfl) hG h
  have n76 : ∀ (k23 : Int32 → Int32 → Int32 → Int32 → Int64 → (Nat → Int64) → Option (Int32 × Int64 × (Nat → Int64))) (hk23 : ∀ (x1 : Int32) (x2 : Int32) (x3 : Int32) (x4 : Int32) (v_all : Int64) (v_sizes : Nat → Int64) (H : Heap) (locs : List Loc) (ls : Array Slot), lv_has ls 7 [(0, .ref (g.2.1 50)), (1, .int x1), (2, .int x2), (3, .int x3), (4, .int x4)] → GW g s (mkS σ [] [(3224, v_all)] [] [(65, v_sizes)]) H locs → k23 x1 x2 x3 x4 v_all v_sizes = some (r, w_all, w_sizes) → Wg p l e 1 21 s m args below meth c g (some (.int r)) (mkS σ [] [(3224, w_all)] [] [(65, w_sizes)]) H locs (F0 m 23 ls [])) (x2 : Int32) (x3 : Int32) (x4 : Int32) (v_all : Int64) (v_sizes : Nat → Int64) (H : Heap) (locs : List Loc) (ls : Array Slot), lv_has ls 7 [(0, .ref (g.2.1 50)), (2, .int x2), (3, .int x3), (4, .int x4)] → GW g s (mkS σ [] [(3224, v_all)] [] [(65, v_sizes)]) H locs → M_firstLaws_n76 k23 (σ.1 3208) (σ.2.2.1 56) (σ.2.2.1 57) x2 x3 x4 v_all v_sizes = some (r, w_all, w_sizes) → Wg p l e 1 21 s m args below meth c g (some (.int r)) (mkS σ [] [(3224, w_all)] [] [(65, w_sizes)]) H locs (F0 m 76 ls []) := by
    intro k23 hk23 x2 x3 x4 v_all v_sizes H locs ls hl hG h
    unfold M_firstLaws_n76 at h
    refine lv_iconst (v := (0 : Int32)) hx hb dX9_firstLaws_76 (by decide) ?_
    exact n77 k23 hk23 x2 x3 x4 (0 : Int32) v_all v_sizes _ _ _ (lv_sub hl [0, 1, 2, 3] rfl) hG h
  have n56 : ∀ (k23 : Int32 → Int32 → Int32 → Int32 → Int64 → (Nat → Int64) → Option (Int32 × Int64 × (Nat → Int64))) (hk23 : ∀ (x1 : Int32) (x2 : Int32) (x3 : Int32) (x4 : Int32) (v_all : Int64) (v_sizes : Nat → Int64) (H : Heap) (locs : List Loc) (ls : Array Slot), lv_has ls 7 [(0, .ref (g.2.1 50)), (1, .int x1), (2, .int x2), (3, .int x3), (4, .int x4)] → GW g s (mkS σ [] [(3224, v_all)] [] [(65, v_sizes)]) H locs → k23 x1 x2 x3 x4 v_all v_sizes = some (r, w_all, w_sizes) → Wg p l e 1 21 s m args below meth c g (some (.int r)) (mkS σ [] [(3224, w_all)] [] [(65, w_sizes)]) H locs (F0 m 23 ls [])) (x2 : Int32) (x3 : Int32) (x4 : Int32) (v_all : Int64) (v_sizes : Nat → Int64) (H : Heap) (locs : List Loc) (ls : Array Slot), lv_has ls 7 [(0, .ref (g.2.1 50)), (2, .int x2), (3, .int x3), (4, .int x4)] → GW g s (mkS σ [] [(3224, v_all)] [] [(65, v_sizes)]) H locs → M_firstLaws_n56 k23 (σ.1 3208) (σ.2.2.1 56) (σ.2.2.1 57) x2 x3 x4 v_all v_sizes = some (r, w_all, w_sizes) → Wg p l e 1 21 s m args below meth c g (some (.int r)) (mkS σ [] [(3224, w_all)] [] [(65, w_sizes)]) H locs (F0 m 56 ls []) := by
    intro k23 hk23 x2 x3 x4 v_all v_sizes H locs ls hl hG h
    unfold M_firstLaws_n56 at h
    refine lv_iload hx hb dX9_firstLaws_56 (lv_at hl 3 rfl) ?_
    refine lv_if_eq (tgt := 72) hx hb dX9_firstLaws_58 (by decide) (fun c15 => ?_) (fun c15 => ?_)
    · have h := ite_t c15 h
      exact n72 k23 hk23 x2 x3 x4 v_all v_sizes _ _ _ (lv_sub hl [0, 1, 2, 3] rfl) hG h
    · have h := ite_f c15 h
      refine lv_aload_n hx hb dX9_firstLaws_61 rfl (lv_at hl 0 rfl) ?_
      refine gx_get (v := .ref (g.2.1 57)) (C := RX9) (T := TX9) (N := 44) hx hb hts mc_X9 hown hK hG (ga_50 g _) rfl 10 (by decide) hw2 rfl rfl dX9_firstLaws_62 ?_
      refine lv_iload hx hb dX9_firstLaws_65 (lv_at hl 3 rfl) ?_
      obtain ⟨hg16, h⟩ := gd_some h
      refine gx_iald (f := (σ.2.2.1 57)) hx hb hK hG (ga_57 g _) hg16 dX9_firstLaws_67 ?_
      refine lv_iconst (v := (1 : Int32)) hx hb dX9_firstLaws_68 (by decide) ?_
      refine lv_icmp_lt (tgt := 76) hx hb dX9_firstLaws_69 (by decide) (fun c17 => ?_) (fun c17 => ?_)
      · have h := ite_t c17 h
        exact n76 k23 hk23 x2 x3 x4 v_all v_sizes _ _ _ (lv_sub hl [0, 1, 2, 3] rfl) hG h
      · have h := ite_f c17 h
        exact n72 k23 hk23 x2 x3 x4 v_all v_sizes _ _ _ (lv_sub hl [0, 1, 2, 3] rfl) hG h
  have n256 : ∀ (v_all : Int64) (v_sizes : Nat → Int64) (H : Heap) (locs : List Loc) (ls : Array Slot), lv_has ls 7 [] → GW g s (mkS σ [] [(3224, v_all)] [] [(65, v_sizes)]) H locs → M_firstLaws_n256 v_all v_sizes = some (r, w_all, w_sizes) → Wg p l e 1 21 s m args below meth c g (some (.int r)) (mkS σ [] [(3224, w_all)] [] [(65, w_sizes)]) H locs (F0 m 256 ls []) := by
    intro v_all v_sizes H locs ls hl hG h
    unfold M_firstLaws_n256 at h
    refine lv_iconst (v := (4 : Int32)) hx hb dX9_firstLaws_256 (by decide) ?_
    cases h
    exact gx_iret hx hb hr hlocks hG dX9_firstLaws_257
  have n314 : ∀ (t0 : Int32) (v_all : Int64) (v_sizes : Nat → Int64) (H : Heap) (locs : List Loc) (ls : Array Slot), lv_has ls 7 [] → GW g s (mkS σ [] [(3224, v_all)] [] [(65, v_sizes)]) H locs → M_firstLaws_n314 t0 v_all v_sizes = some (r, w_all, w_sizes) → Wg p l e 1 21 s m args below meth c g (some (.int r)) (mkS σ [] [(3224, w_all)] [] [(65, w_sizes)]) H locs (F0 m 314 ls [.int t0]) := by
    intro t0 v_all v_sizes H locs ls hl hG h
    unfold M_firstLaws_n314 at h
    cases h
    exact gx_iret hx hb hr hlocks hG dX9_firstLaws_314
  have n298 : ∀ (v_all : Int64) (v_sizes : Nat → Int64) (H : Heap) (locs : List Loc) (ls : Array Slot), lv_has ls 7 [(0, .ref (g.2.1 50))] → GW g s (mkS σ [] [(3224, v_all)] [] [(65, v_sizes)]) H locs → M_firstLaws_n298 v_all v_sizes = some (r, w_all, w_sizes) → Wg p l e 1 21 s m args below meth c g (some (.int r)) (mkS σ [] [(3224, w_all)] [] [(65, w_sizes)]) H locs (F0 m 298 ls []) := by
    intro v_all v_sizes H locs ls hl hG h
    unfold M_firstLaws_n298 at h
    refine lv_aload_n hx hb dX9_firstLaws_298 rfl (lv_at hl 0 rfl) ?_
    refine gx_get (v := .long v_all) (C := RX9) (T := TX9) (N := 44) hx hb hts mc_X9 hown hK hG (ga_50 g _) rfl 24 (by decide) hw3 rfl rfl dX9_firstLaws_299 ?_
    refine lv_ldc2 hx hb hown hw4 dX9_firstLaws_302 ?_
    refine W.lcmp hx hb dX9_firstLaws_305 ?_
    refine lv_if_le (tgt := 313) hx hb dX9_firstLaws_306 (by decide) (fun c18 => ?_) (fun c18 => ?_)
    · have h := ite_t c18 h
      refine lv_iconst (v := (0 : Int32)) hx hb dX9_firstLaws_313 (by decide) ?_
      exact n314 (0 : Int32) v_all v_sizes _ _ _ (lv_sub hl [] rfl) hG h
    · have h := ite_f c18 h
      refine lv_iconst (v := (4 : Int32)) hx hb dX9_firstLaws_309 (by decide) ?_
      refine lv_goto (tgt := 314) hx hb dX9_firstLaws_310 (by decide) ?_
      exact n314 (4 : Int32) v_all v_sizes _ _ _ (lv_sub hl [] rfl) hG h
  have n209 : ∀ (k209 : Int32 → Int64 → (Nat → Int64) → Option (Int32 × Int64 × (Nat → Int64))) (hk209 : ∀ (x4 : Int32) (v_all : Int64) (v_sizes : Nat → Int64) (H : Heap) (locs : List Loc) (ls : Array Slot), lv_has ls 7 [(0, .ref (g.2.1 50)), (4, .int x4)] → GW g s (mkS σ [] [(3224, v_all)] [] [(65, v_sizes)]) H locs → k209 x4 v_all v_sizes = some (r, w_all, w_sizes) → Wg p l e 1 21 s m args below meth c g (some (.int r)) (mkS σ [] [(3224, w_all)] [] [(65, w_sizes)]) H locs (F0 m 209 ls [])) (x4 : Int32) (v_all : Int64) (v_sizes : Nat → Int64) (H : Heap) (locs : List Loc) (ls : Array Slot), lv_has ls 7 [(0, .ref (g.2.1 50)), (4, .int x4)] → GW g s (mkS σ [] [(3224, v_all)] [] [(65, v_sizes)]) H locs → M_firstLaws_n209 k209 (σ.1 3208) (σ.2.2.1 56) (σ.2.2.1 57) x4 v_all v_sizes = some (r, w_all, w_sizes) → Wg p l e 1 21 s m args below meth c g (some (.int r)) (mkS σ [] [(3224, w_all)] [] [(65, w_sizes)]) H locs (F0 m 209 ls []) := by
    intro k209 hk209 x4 v_all v_sizes H locs ls hl hG h
    unfold M_firstLaws_n209 at h
    refine lv_iload hx hb dX9_firstLaws_209 (lv_at hl 1 rfl) ?_
    refine lv_aload_n hx hb dX9_firstLaws_211 rfl (lv_at hl 0 rfl) ?_
    refine gx_get (v := .int (σ.1 3208)) (C := RX9) (T := TX9) (N := 44) hx hb hts mc_X9 hown hK hG (ga_50 g _) rfl 8 (by decide) hw0 rfl rfl dX9_firstLaws_212 ?_
    refine lv_icmp_gt (tgt := 298) hx hb dX9_firstLaws_215 (by decide) (fun c19 => ?_) (fun c19 => ?_)
    · have h := ite_t c19 h
      exact n298 v_all v_sizes _ _ _ (lv_sub hl [0] rfl) hG h
    · have h := ite_f c19 h
      refine lv_aload_n hx hb dX9_firstLaws_218 rfl (lv_at hl 0 rfl) ?_
      refine gx_get (v := .ref (g.2.1 65)) (C := RX9) (T := TX9) (N := 44) hx hb hts mc_X9 hown hK hG (ga_50 g _) rfl 23 (by decide) hw5 rfl rfl dX9_firstLaws_219 ?_
      refine lv_iload hx hb dX9_firstLaws_222 (lv_at hl 1 rfl) ?_
      refine lv_iconst (v := (1 : Int32)) hx hb dX9_firstLaws_224 (by decide) ?_
      refine lv_isub hx hb dX9_firstLaws_225 ?_
      obtain ⟨hg20, h⟩ := gd_some h
      refine gx_lald (f := v_sizes) hx hb hK hG (ga_65 g _) hg20 dX9_firstLaws_226 ?_
      refine lv_aload_n hx hb dX9_firstLaws_227 rfl (lv_at hl 0 rfl) ?_
      refine gx_get (v := .ref (g.2.1 56)) (C := RX9) (T := TX9) (N := 44) hx hb hts mc_X9 hown hK hG (ga_50 g _) rfl 9 (by decide) hw1 rfl rfl dX9_firstLaws_228 ?_
      refine lv_iload hx hb dX9_firstLaws_231 (lv_at hl 1 rfl) ?_
      refine lv_iconst (v := (1 : Int32)) hx hb dX9_firstLaws_233 (by decide) ?_
      refine lv_isub hx hb dX9_firstLaws_234 ?_
      refine gx_iald (f := (σ.2.2.1 56)) hx hb hK hG (ga_56 g _) hg20 dX9_firstLaws_235 ?_
      refine lv_i2l hx hb dX9_firstLaws_236 rfl ?_
      refine lv_lmul hx hb dX9_firstLaws_237 ?_
      refine lv_topl (fun y21 ey21 => ?_)
      have h := lt_at h ey21
      refine lv_lstore (lv' := [(5, .long y21), (0, .ref (g.2.1 50)), (4, .int x4)]) hx hb dX9_firstLaws_238 hl (Nat.le_of_ble_eq_true rfl) rfl (fun ls hl => ?_)
      refine lv_lload hx hb dX9_firstLaws_240 (lv_at hl 0 rfl) ?_
      refine lv_aload_n hx hb dX9_firstLaws_242 rfl (lv_at hl 1 rfl) ?_
      refine gx_get (v := .ref (g.2.1 57)) (C := RX9) (T := TX9) (N := 44) hx hb hts mc_X9 hown hK hG (ga_50 g _) rfl 10 (by decide) hw2 rfl rfl dX9_firstLaws_243 ?_
      refine lv_iload hx hb dX9_firstLaws_246 (lv_at hl 2 rfl) ?_
      obtain ⟨hg22, h⟩ := gd_some h
      refine gx_iald (f := (σ.2.2.1 57)) hx hb hK hG (ga_57 g _) hg22 dX9_firstLaws_248 ?_
      refine lv_i2l hx hb dX9_firstLaws_249 rfl ?_
      obtain ⟨hg23, h⟩ := gd_some h
      refine lv_lrem hx hb dX9_firstLaws_250 (nzL_ne hg23) ?_
      refine lv_lconst (v := (0 : Int64)) hx hb dX9_firstLaws_251 (by decide) ?_
      refine W.lcmp hx hb dX9_firstLaws_252 ?_
      refine lv_if_eq (tgt := 258) hx hb dX9_firstLaws_253 (by decide) (fun c24 => ?_) (fun c24 => ?_)
      · have h := ite_t c24 h
        refine lv_aload_n hx hb dX9_firstLaws_258 rfl (lv_at hl 1 rfl) ?_
        refine gx_get (v := .ref (g.2.1 65)) (C := RX9) (T := TX9) (N := 44) hx hb hts mc_X9 hown hK hG (ga_50 g _) rfl 23 (by decide) hw5 rfl rfl dX9_firstLaws_259 ?_
        refine lv_iload hx hb dX9_firstLaws_262 (lv_at hl 2 rfl) ?_
        refine lv_lload hx hb dX9_firstLaws_264 (lv_at hl 0 rfl) ?_
        refine lv_aload_n hx hb dX9_firstLaws_266 rfl (lv_at hl 1 rfl) ?_
        refine gx_get (v := .ref (g.2.1 57)) (C := RX9) (T := TX9) (N := 44) hx hb hts mc_X9 hown hK hG (ga_50 g _) rfl 10 (by decide) hw2 rfl rfl dX9_firstLaws_267 ?_
        refine lv_iload hx hb dX9_firstLaws_270 (lv_at hl 2 rfl) ?_
        refine gx_iald (f := (σ.2.2.1 57)) hx hb hK hG (ga_57 g _) hg22 dX9_firstLaws_272 ?_
        refine lv_i2l hx hb dX9_firstLaws_273 rfl ?_
        refine lv_ldiv hx hb dX9_firstLaws_274 (nzL_ne hg23) ?_
        refine gx_last (σ' := (mkS σ [] [(3224, v_all)] [] [(65, (vp_updL v_sizes (x4.toNatClampNeg) (y21 / (((σ.2.2.1 57) (x4.toNatClampNeg)).toInt64))))])) (f := v_sizes) hx hb hK hG (ga_65 g _) hg22 ((gs_65 g _ _).trans (congrArg (g_cells g) (mk_d 0 rfl rfl))) dX9_firstLaws_275 (fun H locs hG => ?_)
        refine lv_aload_n hx hb dX9_firstLaws_276 rfl (lv_at hl 1 rfl) ?_
        refine lv_dup hx hb dX9_firstLaws_277 rfl ?_
        refine gx_get (v := .long v_all) (C := RX9) (T := TX9) (N := 44) hx hb hts mc_X9 hown hK hG (ga_50 g _) rfl 24 (by decide) hw3 rfl rfl dX9_firstLaws_278 ?_
        refine lv_aload_n hx hb dX9_firstLaws_281 rfl (lv_at hl 1 rfl) ?_
        refine gx_get (v := .ref (g.2.1 65)) (C := RX9) (T := TX9) (N := 44) hx hb hts mc_X9 hown hK hG (ga_50 g _) rfl 23 (by decide) hw5 rfl rfl dX9_firstLaws_282 ?_
        refine lv_iload hx hb dX9_firstLaws_285 (lv_at hl 2 rfl) ?_
        refine gx_lald (f := (vp_updL v_sizes (x4.toNatClampNeg) (y21 / (((σ.2.2.1 57) (x4.toNatClampNeg)).toInt64)))) hx hb hK hG (ga_65 g _) hg22 dX9_firstLaws_287 ?_
        refine lv_ladd hx hb dX9_firstLaws_288 ?_
        refine lv_topl (fun y25 ey25 => ?_)
        have h := lt_at h ey25
        refine gx_put (σ' := (mkS σ [] [(3224, y25)] [] [(65, (vp_updL v_sizes (x4.toNatClampNeg) (y21 / (((σ.2.2.1 57) (x4.toNatClampNeg)).toInt64))))])) (C := RX9) (T := TX9) (N := 44) hx hb hts mc_X9 tyX9 tyX9_ok nmX9 hown hK hG (ga_50 g _) rfl 24 (by decide) hw3 rfl rfl rfl rfl (Nat.le_of_ble_eq_true rfl) ((gf_3224 g _ _).trans (congrArg (g_cells g) (mk_b 0 rfl rfl))) dX9_firstLaws_289 (fun H locs hG => ?_)
        refine lv_iinc (v := (x4 + (1 : Int32))) (lv' := [(4, .int (x4 + (1 : Int32))), (5, .long y21), (0, .ref (g.2.1 50))]) hx hb dX9_firstLaws_292 hl (k := 2) rfl (congrArg (fun z => x4 + z) (by decide)) (Nat.le_of_ble_eq_true rfl) rfl (fun ls hl => ?_)
        refine lv_goto (tgt := 209) hx hb dX9_firstLaws_295 (by decide) ?_
        exact hk209 (x4 + (1 : Int32)) y25 (vp_updL v_sizes (x4.toNatClampNeg) (y21 / (((σ.2.2.1 57) (x4.toNatClampNeg)).toInt64))) _ _ _ (lv_sub hl [2, 0] rfl) hG h
      · have h := ite_f c24 h
        exact n256 v_all v_sizes _ _ _ (lv_sub hl [] rfl) hG h
  have l209 : ∀  (F : Nat) (x4 : Int32) (v_all : Int64) (v_sizes : Nat → Int64) (H : Heap) (locs : List Loc) (ls : Array Slot), lv_has ls 7 [(0, .ref (g.2.1 50)), (4, .int x4)] → GW g s (mkS σ [] [(3224, v_all)] [] [(65, v_sizes)]) H locs → M_firstLaws_l209 (σ.1 3208) (σ.2.2.1 56) (σ.2.2.1 57) F x4 v_all v_sizes = some (r, w_all, w_sizes) → Wg p l e 1 21 s m args below meth c g (some (.int r)) (mkS σ [] [(3224, w_all)] [] [(65, w_sizes)]) H locs (F0 m 209 ls []) := by
    intro F
    induction F with
    | zero => intro x4 v_all v_sizes H locs ls hl hG h; exact no_some h
    | succ F ih => intro x4 v_all v_sizes H locs ls hl hG h; exact n209 (fun x4 v_all v_sizes => M_firstLaws_l209 (σ.1 3208) (σ.2.2.1 56) (σ.2.2.1 57) F x4 v_all v_sizes) ih x4 v_all v_sizes H locs ls hl hG h
  have n176 : ∀ (x1 : Int32) (x2 : Int32) (x3 : Int32) (v_all : Int64) (v_sizes : Nat → Int64) (H : Heap) (locs : List Loc) (ls : Array Slot), lv_has ls 7 [(0, .ref (g.2.1 50)), (1, .int x1), (2, .int x2), (3, .int x3)] → GW g s (mkS σ [] [(3224, v_all)] [] [(65, v_sizes)]) H locs → M_firstLaws_n176 (σ.1 3208) (σ.2.2.1 56) (σ.2.2.1 57) x1 x2 x3 v_all v_sizes = some (r, w_all, w_sizes) → Wg p l e 1 21 s m args below meth c g (some (.int r)) (mkS σ [] [(3224, w_all)] [] [(65, w_sizes)]) H locs (F0 m 176 ls []) := by
    intro x1 x2 x3 v_all v_sizes H locs ls hl hG h
    unfold M_firstLaws_n176 at h
    refine lv_iload_n hx hb dX9_firstLaws_176 rfl (lv_at hl 1 rfl) ?_
    refine lv_if_ne (tgt := 182) hx hb dX9_firstLaws_177 (by decide) (fun c26 => ?_) (fun c26 => ?_)
    · have h := ite_f c26 h
      refine lv_iload_n hx hb dX9_firstLaws_182 rfl (lv_at hl 2 rfl) ?_
      refine lv_if_ne (tgt := 188) hx hb dX9_firstLaws_183 (by decide) (fun c27 => ?_) (fun c27 => ?_)
      · have h := ite_f c27 h
        refine lv_iload_n hx hb dX9_firstLaws_188 rfl (lv_at hl 3 rfl) ?_
        refine lv_if_ne (tgt := 194) hx hb dX9_firstLaws_189 (by decide) (fun c28 => ?_) (fun c28 => ?_)
        · have h := ite_f c28 h
          refine lv_aload_n hx hb dX9_firstLaws_194 rfl (lv_at hl 0 rfl) ?_
          refine gx_get (v := .ref (g.2.1 65)) (C := RX9) (T := TX9) (N := 44) hx hb hts mc_X9 hown hK hG (ga_50 g _) rfl 23 (by decide) hw5 rfl rfl dX9_firstLaws_195 ?_
          refine lv_iconst (v := (0 : Int32)) hx hb dX9_firstLaws_198 (by decide) ?_
          refine lv_lconst (v := (1 : Int64)) hx hb dX9_firstLaws_199 (by decide) ?_
          refine gx_last (σ' := (mkS σ [] [(3224, v_all)] [] [(65, (vp_updL v_sizes ((0 : Int32).toNatClampNeg) (1 : Int64)))])) (f := v_sizes) hx hb hK hG (ga_65 g _) (by decide) ((gs_65 g _ _).trans (congrArg (g_cells g) (mk_d 0 rfl rfl))) dX9_firstLaws_200 (fun H locs hG => ?_)
          refine lv_aload_n hx hb dX9_firstLaws_201 rfl (lv_at hl 0 rfl) ?_
          refine lv_lconst (v := (1 : Int64)) hx hb dX9_firstLaws_202 (by decide) ?_
          refine gx_put (σ' := (mkS σ [] [(3224, (1 : Int64))] [] [(65, (vp_updL v_sizes ((0 : Int32).toNatClampNeg) (1 : Int64)))])) (C := RX9) (T := TX9) (N := 44) hx hb hts mc_X9 tyX9 tyX9_ok nmX9 hown hK hG (ga_50 g _) rfl 24 (by decide) hw3 rfl rfl rfl rfl (Nat.le_of_ble_eq_true rfl) ((gf_3224 g _ _).trans (congrArg (g_cells g) (mk_b 0 rfl rfl))) dX9_firstLaws_203 (fun H locs hG => ?_)
          refine lv_iconst (v := (1 : Int32)) hx hb dX9_firstLaws_206 (by decide) ?_
          refine lv_istore (lv' := [(4, .int (1 : Int32)), (0, .ref (g.2.1 50)), (1, .int x1), (2, .int x2), (3, .int x3)]) hx hb dX9_firstLaws_207 hl (Nat.le_of_ble_eq_true rfl) rfl (fun ls hl => ?_)
          exact l209 FUEL (1 : Int32) (1 : Int64) (vp_updL v_sizes ((0 : Int32).toNatClampNeg) (1 : Int64)) _ _ _ (lv_sub hl [1, 0] rfl) hG h
        · have h := ite_t c28 h
          refine lv_iconst (v := (3 : Int32)) hx hb dX9_firstLaws_192 (by decide) ?_
          cases h
          exact gx_iret hx hb hr hlocks hG dX9_firstLaws_193
      · have h := ite_t c27 h
        refine lv_iconst (v := (2 : Int32)) hx hb dX9_firstLaws_186 (by decide) ?_
        cases h
        exact gx_iret hx hb hr hlocks hG dX9_firstLaws_187
    · have h := ite_t c26 h
      refine lv_iconst (v := (1 : Int32)) hx hb dX9_firstLaws_180 (by decide) ?_
      cases h
      exact gx_iret hx hb hr hlocks hG dX9_firstLaws_181
  have n23 : ∀ (k23 : Int32 → Int32 → Int32 → Int32 → Int64 → (Nat → Int64) → Option (Int32 × Int64 × (Nat → Int64))) (hk23 : ∀ (x1 : Int32) (x2 : Int32) (x3 : Int32) (x4 : Int32) (v_all : Int64) (v_sizes : Nat → Int64) (H : Heap) (locs : List Loc) (ls : Array Slot), lv_has ls 7 [(0, .ref (g.2.1 50)), (1, .int x1), (2, .int x2), (3, .int x3), (4, .int x4)] → GW g s (mkS σ [] [(3224, v_all)] [] [(65, v_sizes)]) H locs → k23 x1 x2 x3 x4 v_all v_sizes = some (r, w_all, w_sizes) → Wg p l e 1 21 s m args below meth c g (some (.int r)) (mkS σ [] [(3224, w_all)] [] [(65, w_sizes)]) H locs (F0 m 23 ls [])) (x1 : Int32) (x2 : Int32) (x3 : Int32) (x4 : Int32) (v_all : Int64) (v_sizes : Nat → Int64) (H : Heap) (locs : List Loc) (ls : Array Slot), lv_has ls 7 [(0, .ref (g.2.1 50)), (1, .int x1), (2, .int x2), (3, .int x3), (4, .int x4)] → GW g s (mkS σ [] [(3224, v_all)] [] [(65, v_sizes)]) H locs → M_firstLaws_n23 k23 (σ.1 3208) (σ.2.2.1 56) (σ.2.2.1 57) x1 x2 x3 x4 v_all v_sizes = some (r, w_all, w_sizes) → Wg p l e 1 21 s m args below meth c g (some (.int r)) (mkS σ [] [(3224, w_all)] [] [(65, w_sizes)]) H locs (F0 m 23 ls []) := by
    intro k23 hk23 x1 x2 x3 x4 v_all v_sizes H locs ls hl hG h
    unfold M_firstLaws_n23 at h
    refine lv_iload hx hb dX9_firstLaws_23 (lv_at hl 4 rfl) ?_
    refine lv_aload_n hx hb dX9_firstLaws_25 rfl (lv_at hl 0 rfl) ?_
    refine gx_get (v := .int (σ.1 3208)) (C := RX9) (T := TX9) (N := 44) hx hb hts mc_X9 hown hK hG (ga_50 g _) rfl 8 (by decide) hw0 rfl rfl dX9_firstLaws_26 ?_
    refine lv_icmp_gt (tgt := 176) hx hb dX9_firstLaws_29 (by decide) (fun c29 => ?_) (fun c29 => ?_)
    · have h := ite_t c29 h
      exact n176 x1 x2 x3 v_all v_sizes _ _ _ (lv_sub hl [0, 1, 2, 3] rfl) hG h
    · have h := ite_f c29 h
      refine lv_iload_n hx hb dX9_firstLaws_32 rfl (lv_at hl 1 rfl) ?_
      refine lv_if_eq (tgt := 76) hx hb dX9_firstLaws_33 (by decide) (fun c30 => ?_) (fun c30 => ?_)
      · have h := ite_t c30 h
        exact n76 k23 hk23 x2 x3 x4 v_all v_sizes _ _ _ (lv_sub hl [0, 2, 3, 4] rfl) hG h
      · have h := ite_f c30 h
        refine lv_iload hx hb dX9_firstLaws_36 (lv_at hl 4 rfl) ?_
        refine lv_aload_n hx hb dX9_firstLaws_38 rfl (lv_at hl 0 rfl) ?_
        refine gx_get (v := .int (σ.1 3208)) (C := RX9) (T := TX9) (N := 44) hx hb hts mc_X9 hown hK hG (ga_50 g _) rfl 8 (by decide) hw0 rfl rfl dX9_firstLaws_39 ?_
        refine lv_icmp_eq (tgt := 56) hx hb dX9_firstLaws_42 (by decide) (fun c31 => ?_) (fun c31 => ?_)
        · have h := ite_t c31 h
          exact n56 k23 hk23 x2 x3 x4 v_all v_sizes _ _ _ (lv_sub hl [0, 2, 3, 4] rfl) hG h
        · have h := ite_f c31 h
          refine lv_aload_n hx hb dX9_firstLaws_45 rfl (lv_at hl 0 rfl) ?_
          refine gx_get (v := .ref (g.2.1 56)) (C := RX9) (T := TX9) (N := 44) hx hb hts mc_X9 hown hK hG (ga_50 g _) rfl 9 (by decide) hw1 rfl rfl dX9_firstLaws_46 ?_
          refine lv_iload hx hb dX9_firstLaws_49 (lv_at hl 4 rfl) ?_
          obtain ⟨hg32, h⟩ := gd_some h
          refine gx_iald (f := (σ.2.2.1 56)) hx hb hK hG (ga_56 g _) hg32 dX9_firstLaws_51 ?_
          refine lv_iconst (v := (1 : Int32)) hx hb dX9_firstLaws_52 (by decide) ?_
          refine lv_icmp_lt (tgt := 76) hx hb dX9_firstLaws_53 (by decide) (fun c33 => ?_) (fun c33 => ?_)
          · have h := ite_t c33 h
            exact n76 k23 hk23 x2 x3 x4 v_all v_sizes _ _ _ (lv_sub hl [0, 2, 3, 4] rfl) hG h
          · have h := ite_f c33 h
            exact n56 k23 hk23 x2 x3 x4 v_all v_sizes _ _ _ (lv_sub hl [0, 2, 3, 4] rfl) hG h
  have l23 : ∀  (F : Nat) (x1 : Int32) (x2 : Int32) (x3 : Int32) (x4 : Int32) (v_all : Int64) (v_sizes : Nat → Int64) (H : Heap) (locs : List Loc) (ls : Array Slot), lv_has ls 7 [(0, .ref (g.2.1 50)), (1, .int x1), (2, .int x2), (3, .int x3), (4, .int x4)] → GW g s (mkS σ [] [(3224, v_all)] [] [(65, v_sizes)]) H locs → M_firstLaws_l23 (σ.1 3208) (σ.2.2.1 56) (σ.2.2.1 57) F x1 x2 x3 x4 v_all v_sizes = some (r, w_all, w_sizes) → Wg p l e 1 21 s m args below meth c g (some (.int r)) (mkS σ [] [(3224, w_all)] [] [(65, w_sizes)]) H locs (F0 m 23 ls []) := by
    intro F
    induction F with
    | zero => intro x1 x2 x3 x4 v_all v_sizes H locs ls hl hG h; exact no_some h
    | succ F ih => intro x1 x2 x3 x4 v_all v_sizes H locs ls hl hG h; exact n23 (fun x1 x2 x3 x4 v_all v_sizes => M_firstLaws_l23 (σ.1 3208) (σ.2.2.1 56) (σ.2.2.1 57) F x1 x2 x3 x4 v_all v_sizes) ih x1 x2 x3 x4 v_all v_sizes H locs ls hl hG h
  have n15 : ∀ (t0 : Int32) (v_all : Int64) (v_sizes : Nat → Int64) (H : Heap) (locs : List Loc) (ls : Array Slot), lv_has ls 7 [(0, .ref (g.2.1 50))] → GW g s (mkS σ [] [(3224, v_all)] [] [(65, v_sizes)]) H locs → M_firstLaws_n15 (σ.1 3208) (σ.2.2.1 56) (σ.2.2.1 57) t0 v_all v_sizes = some (r, w_all, w_sizes) → Wg p l e 1 21 s m args below meth c g (some (.int r)) (mkS σ [] [(3224, w_all)] [] [(65, w_sizes)]) H locs (F0 m 15 ls [.int t0]) := by
    intro t0 v_all v_sizes H locs ls hl hG h
    unfold M_firstLaws_n15 at h
    refine lv_istore_n (lv' := [(1, .int t0), (0, .ref (g.2.1 50))]) hx hb dX9_firstLaws_15 rfl hl (Nat.le_of_ble_eq_true rfl) rfl (fun ls hl => ?_)
    refine lv_iconst (v := (1 : Int32)) hx hb dX9_firstLaws_16 (by decide) ?_
    refine lv_istore_n (lv' := [(2, .int (1 : Int32)), (1, .int t0), (0, .ref (g.2.1 50))]) hx hb dX9_firstLaws_17 rfl hl (Nat.le_of_ble_eq_true rfl) rfl (fun ls hl => ?_)
    refine lv_iconst (v := (1 : Int32)) hx hb dX9_firstLaws_18 (by decide) ?_
    refine lv_istore_n (lv' := [(3, .int (1 : Int32)), (2, .int (1 : Int32)), (1, .int t0), (0, .ref (g.2.1 50))]) hx hb dX9_firstLaws_19 rfl hl (Nat.le_of_ble_eq_true rfl) rfl (fun ls hl => ?_)
    refine lv_iconst (v := (0 : Int32)) hx hb dX9_firstLaws_20 (by decide) ?_
    refine lv_istore (lv' := [(4, .int (0 : Int32)), (3, .int (1 : Int32)), (2, .int (1 : Int32)), (1, .int t0), (0, .ref (g.2.1 50))]) hx hb dX9_firstLaws_21 hl (Nat.le_of_ble_eq_true rfl) rfl (fun ls hl => ?_)
    exact l23 FUEL t0 (1 : Int32) (1 : Int32) (0 : Int32) v_all v_sizes _ _ _ (lv_sub hl [4, 3, 2, 1, 0] rfl) hG h
  refine lv_aload_n hx hb dX9_firstLaws_0 rfl (lv_at hl 0 rfl) ?_
  refine gx_get (v := .ref (g.2.1 57)) (C := RX9) (T := TX9) (N := 44) hx hb hts mc_X9 hown hK hG (ga_50 g _) rfl 10 (by decide) hw2 rfl rfl dX9_firstLaws_1 ?_
  refine lv_iconst (v := (1 : Int32)) hx hb dX9_firstLaws_4 (by decide) ?_
  refine gx_iald (f := (σ.2.2.1 57)) hx hb hK hG (ga_57 g _) (by decide) dX9_firstLaws_5 ?_
  refine lv_iconst (v := (1 : Int32)) hx hb dX9_firstLaws_6 (by decide) ?_
  refine lv_icmp_ne (tgt := 14) hx hb dX9_firstLaws_7 (by decide) (fun c34 => ?_) (fun c34 => ?_)
  · have h := ite_f c34 h
    refine lv_iconst (v := (0 : Int32)) hx hb dX9_firstLaws_14 (by decide) ?_
    exact n15 (0 : Int32) (σ.2.1 3224) (σ.2.2.2 65) _ _ _ (lv_sub hl [0] rfl) hG h
  · have h := ite_t c34 h
    refine lv_iconst (v := (1 : Int32)) hx hb dX9_firstLaws_10 (by decide) ?_
    refine lv_goto (tgt := 15) hx hb dX9_firstLaws_11 (by decide) ?_
    exact n15 (1 : Int32) (σ.2.1 3224) (σ.2.2.2 65) _ _ _ (lv_sub hl [0] rfl) hG h

set_option maxHeartbeats 4000000 in
set_option maxRecDepth 100000 in
theorem c_M_areHalves (l : Launch) (g : GC) (σ : St) (r : Int32) (h : M_areHalves (σ.1 3208) (σ.2.1 3224) (σ.2.2.1 56) (σ.2.2.1 57) (σ.2.2.2 65) = some r) : Cn l g yX9_areHalves (Cond.code yX9_areHalves cX9_areHalves 3 (some .boolean) :: wG) 1 21 [.ref (g.2.1 50)] σ (some (.int r)) σ := by
  unfold Cn
  refine Met.ofW (cc := cX9_areHalves) (maxL := 3) (ret := (some .boolean)) (by decide) rfl ?_
  intro p e s m args below meth c s₁ B hml hv
  obtain ⟨hargs, hP0, hK⟩ := hv
  have hx := B.exec
  have hb := B.bytes
  have hr := B.returns
  have hts : ∀ w ∈ wG, w.before args s = true := fun w h => atoms_spec (ws := (Cond.code yX9_areHalves cX9_areHalves 3 (some .boolean) :: wG)) B.pre w (List.mem_cons_of_mem _ h)
  have hown : s.vm.findClass RX9 = some m.cls := findClass_of_methodNamed B.named
  have hlocks := B.notSynchronized
  have hS9 : CallFix p m c cX9_areHalves 3 s args wG RX9 := ⟨hx, hb, hml, hown, hts⟩
  have hw0 := hts _ mw_4_147
  have hw1 := hts _ mw_4_162
  have hw2 := hts _ mw_5_44
  have hw3 := hts _ mw_4_148
  have hw4 := hts _ mw_4_163
  have hf9 : entryFrame m args 3 = _ := (congrArg (fun a => entryFrame m a 3) hargs).trans (lg_entry_eq m [.ref (g.2.1 50)] 3)
  show Wg p l e 1 21 s m args below meth c g (some (.int r)) σ s.heap [] (entryFrame m args 3)
  rw [hf9]
  have hl := lv_entry ([.ref (g.2.1 50)]) (n := 3) (Nat.le_of_ble_eq_true rfl)
  generalize (lg_sl ([.ref (g.2.1 50)]) ++ List.replicate (3 - (lg_sl ([.ref (g.2.1 50)])).length) Slot.unset).toArray = ls at hl ⊢
  have hl : lv_has ls 3 [(0, .ref (g.2.1 50))] := hl
  have hG : GW g s σ s.heap [] := ⟨hP0, va_S.rf⟩
  unfold M_areHalves at h
  have n68 : ∀ (k29 : Int32 → Int32 → Option (Int32)) (hk29 : ∀ (x1 : Int32) (x2 : Int32) (H : Heap) (locs : List Loc) (ls : Array Slot), lv_has ls 3 [(0, .ref (g.2.1 50)), (1, .int x1), (2, .int x2)] → GW g s σ H locs → k29 x1 x2 = some r → Wg p l e 1 21 s m args below meth c g (some (.int r)) σ H locs (F0 m 29 ls [])) (x2 : Int32) (t0 : Int32) (H : Heap) (locs : List Loc) (ls : Array Slot), lv_has ls 3 [(0, .ref (g.2.1 50)), (2, .int x2)] → GW g s σ H locs → M_areHalves_n68 k29 x2 t0 = some r → Wg p l e 1 21 s m args below meth c g (some (.int r)) σ H locs (F0 m 68 ls [.int t0]) := by
    intro k29 hk29 x2 t0 H locs ls hl hG h
    unfold M_areHalves_n68 at h
    refine lv_istore_n (lv' := [(1, .int t0), (0, .ref (g.2.1 50)), (2, .int x2)]) hx hb dX9_areHalves_68 rfl hl (Nat.le_of_ble_eq_true rfl) rfl (fun ls hl => ?_)
    refine lv_iinc (v := (x2 + (1 : Int32))) (lv' := [(2, .int (x2 + (1 : Int32))), (1, .int t0), (0, .ref (g.2.1 50))]) hx hb dX9_areHalves_69 hl (k := 2) rfl (congrArg (fun z => x2 + z) (by decide)) (Nat.le_of_ble_eq_true rfl) rfl (fun ls hl => ?_)
    refine lv_goto (tgt := 29) hx hb dX9_areHalves_72 (by decide) ?_
    exact hk29 t0 (x2 + (1 : Int32)) _ _ _ (lv_sub hl [2, 1, 0] rfl) hG h
  have n67 : ∀ (k29 : Int32 → Int32 → Option (Int32)) (hk29 : ∀ (x1 : Int32) (x2 : Int32) (H : Heap) (locs : List Loc) (ls : Array Slot), lv_has ls 3 [(0, .ref (g.2.1 50)), (1, .int x1), (2, .int x2)] → GW g s σ H locs → k29 x1 x2 = some r → Wg p l e 1 21 s m args below meth c g (some (.int r)) σ H locs (F0 m 29 ls [])) (x2 : Int32) (H : Heap) (locs : List Loc) (ls : Array Slot), lv_has ls 3 [(0, .ref (g.2.1 50)), (2, .int x2)] → GW g s σ H locs → M_areHalves_n67 k29 x2 = some r → Wg p l e 1 21 s m args below meth c g (some (.int r)) σ H locs (F0 m 67 ls []) := by
    intro k29 hk29 x2 H locs ls hl hG h
    unfold M_areHalves_n67 at h
    refine lv_iconst (v := (0 : Int32)) hx hb dX9_areHalves_67 (by decide) ?_
    exact n68 k29 hk29 x2 (0 : Int32) _ _ _ (lv_sub hl [0, 1] rfl) hG h
  have n75 : ∀ (x1 : Int32) (H : Heap) (locs : List Loc) (ls : Array Slot), lv_has ls 3 [(1, .int x1)] → GW g s σ H locs → M_areHalves_n75 x1 = some r → Wg p l e 1 21 s m args below meth c g (some (.int r)) σ H locs (F0 m 75 ls []) := by
    intro x1 H locs ls hl hG h
    unfold M_areHalves_n75 at h
    refine lv_iload_n hx hb dX9_areHalves_75 rfl (lv_at hl 0 rfl) ?_
    obtain ⟨hg1, h⟩ := gd_some h
    cases h
    exact gx_zret hx hb hr hlocks hg1 hG dX9_areHalves_76
  have n29 : ∀ (k29 : Int32 → Int32 → Option (Int32)) (hk29 : ∀ (x1 : Int32) (x2 : Int32) (H : Heap) (locs : List Loc) (ls : Array Slot), lv_has ls 3 [(0, .ref (g.2.1 50)), (1, .int x1), (2, .int x2)] → GW g s σ H locs → k29 x1 x2 = some r → Wg p l e 1 21 s m args below meth c g (some (.int r)) σ H locs (F0 m 29 ls [])) (x1 : Int32) (x2 : Int32) (H : Heap) (locs : List Loc) (ls : Array Slot), lv_has ls 3 [(0, .ref (g.2.1 50)), (1, .int x1), (2, .int x2)] → GW g s σ H locs → M_areHalves_n29 k29 (σ.1 3208) (σ.2.2.1 56) (σ.2.2.1 57) (σ.2.2.2 65) x1 x2 = some r → Wg p l e 1 21 s m args below meth c g (some (.int r)) σ H locs (F0 m 29 ls []) := by
    intro k29 hk29 x1 x2 H locs ls hl hG h
    unfold M_areHalves_n29 at h
    refine lv_iload_n hx hb dX9_areHalves_29 rfl (lv_at hl 2 rfl) ?_
    refine lv_aload_n hx hb dX9_areHalves_30 rfl (lv_at hl 0 rfl) ?_
    refine gx_get (v := .int (σ.1 3208)) (C := RX9) (T := TX9) (N := 44) hx hb hts mc_X9 hown hK hG (ga_50 g _) rfl 8 (by decide) hw0 rfl rfl dX9_areHalves_31 ?_
    refine lv_icmp_gt (tgt := 75) hx hb dX9_areHalves_34 (by decide) (fun c2 => ?_) (fun c2 => ?_)
    · have h := ite_t c2 h
      exact n75 x1 _ _ _ (lv_sub hl [1] rfl) hG h
    · have h := ite_f c2 h
      refine lv_iload_n hx hb dX9_areHalves_37 rfl (lv_at hl 1 rfl) ?_
      refine lv_if_eq (tgt := 67) hx hb dX9_areHalves_38 (by decide) (fun c3 => ?_) (fun c3 => ?_)
      · have h := ite_t c3 h
        exact n67 k29 hk29 x2 _ _ _ (lv_sub hl [0, 2] rfl) hG h
      · have h := ite_f c3 h
        refine lv_aload_n hx hb dX9_areHalves_41 rfl (lv_at hl 0 rfl) ?_
        refine gx_get (v := .ref (g.2.1 65)) (C := RX9) (T := TX9) (N := 44) hx hb hts mc_X9 hown hK hG (ga_50 g _) rfl 23 (by decide) hw1 rfl rfl dX9_areHalves_42 ?_
        refine lv_iload_n hx hb dX9_areHalves_45 rfl (lv_at hl 2 rfl) ?_
        obtain ⟨hg4, h⟩ := gd_some h
        refine gx_lald (f := (σ.2.2.2 65)) hx hb hK hG (ga_65 g _) hg4 dX9_areHalves_46 ?_
        refine lv_aload_n hx hb dX9_areHalves_47 rfl (lv_at hl 0 rfl) ?_
        refine lv_iload_n hx hb dX9_areHalves_48 rfl (lv_at hl 2 rfl) ?_
        obtain ⟨z5, hc6, h⟩ := bnd_some h
        refine gx_cV (σ' := σ) (r := (some (.int z5))) (rest := [.long ((σ.2.2.2 65) (x2.toNatClampNeg))]) (As := [.int x2]) hS9 (c_M_a l g σ x2 z5 hc6) rfl (cwV 1 hts (gz_V mw_5_216 mw_5_218 ms_4_9 mw_1_11 mw_5_219) rfl rfl rfl hdV_X9_a ⟨Nat.le_of_ble_eq_true rfl, Nat.le_of_ble_eq_true rfl⟩) hK hG (ga_50 g _) rfl rfl rfl hl.1 rfl (Nat.le_of_ble_eq_true rfl) dX9_areHalves_49 (fun H locs hG => ?_)
        refine W.eq (g2 := F0 m 52 ls [.int z5, .long ((σ.2.2.2 65) (x2.toNatClampNeg))]) rfl ?_
        refine lv_i2l hx hb dX9_areHalves_52 rfl ?_
        refine lv_lmul hx hb dX9_areHalves_53 ?_
        refine lv_ldc2 hx hb hown hw2 dX9_areHalves_54 ?_
        refine lv_lrem hx hb dX9_areHalves_57 (by decide) ?_
        refine lv_lconst (v := (0 : Int64)) hx hb dX9_areHalves_58 (by decide) ?_
        refine W.lcmp hx hb dX9_areHalves_59 ?_
        refine lv_if_ne (tgt := 67) hx hb dX9_areHalves_60 (by decide) (fun c7 => ?_) (fun c7 => ?_)
        · have h := ite_f c7 h
          exact n67 k29 hk29 x2 _ _ _ (lv_sub hl [0, 2] rfl) hG h
        · have h := ite_t c7 h
          refine lv_iconst (v := (1 : Int32)) hx hb dX9_areHalves_63 (by decide) ?_
          refine lv_goto (tgt := 68) hx hb dX9_areHalves_64 (by decide) ?_
          exact n68 k29 hk29 x2 (1 : Int32) _ _ _ (lv_sub hl [0, 2] rfl) hG h
  have l29 : ∀  (F : Nat) (x1 : Int32) (x2 : Int32) (H : Heap) (locs : List Loc) (ls : Array Slot), lv_has ls 3 [(0, .ref (g.2.1 50)), (1, .int x1), (2, .int x2)] → GW g s σ H locs → M_areHalves_l29 (σ.1 3208) (σ.2.2.1 56) (σ.2.2.1 57) (σ.2.2.2 65) F x1 x2 = some r → Wg p l e 1 21 s m args below meth c g (some (.int r)) σ H locs (F0 m 29 ls []) := by
    intro F
    induction F with
    | zero => intro x1 x2 H locs ls hl hG h; exact no_some h
    | succ F ih => intro x1 x2 H locs ls hl hG h; exact n29 (fun x1 x2 => M_areHalves_l29 (σ.1 3208) (σ.2.2.1 56) (σ.2.2.1 57) (σ.2.2.2 65) F x1 x2) ih x1 x2 H locs ls hl hG h
  have n26 : ∀ (t0 : Int32) (H : Heap) (locs : List Loc) (ls : Array Slot), lv_has ls 3 [(0, .ref (g.2.1 50))] → GW g s σ H locs → M_areHalves_n26 (σ.1 3208) (σ.2.2.1 56) (σ.2.2.1 57) (σ.2.2.2 65) t0 = some r → Wg p l e 1 21 s m args below meth c g (some (.int r)) σ H locs (F0 m 26 ls [.int t0]) := by
    intro t0 H locs ls hl hG h
    unfold M_areHalves_n26 at h
    refine lv_istore_n (lv' := [(1, .int t0), (0, .ref (g.2.1 50))]) hx hb dX9_areHalves_26 rfl hl (Nat.le_of_ble_eq_true rfl) rfl (fun ls hl => ?_)
    refine lv_iconst (v := (0 : Int32)) hx hb dX9_areHalves_27 (by decide) ?_
    refine lv_istore_n (lv' := [(2, .int (0 : Int32)), (1, .int t0), (0, .ref (g.2.1 50))]) hx hb dX9_areHalves_28 rfl hl (Nat.le_of_ble_eq_true rfl) rfl (fun ls hl => ?_)
    exact l29 FUEL t0 (0 : Int32) _ _ _ (lv_sub hl [2, 1, 0] rfl) hG h
  refine lv_aload_n hx hb dX9_areHalves_0 rfl (lv_at hl 0 rfl) ?_
  refine gx_get (v := .ref (g.2.1 56)) (C := RX9) (T := TX9) (N := 44) hx hb hts mc_X9 hown hK hG (ga_50 g _) rfl 9 (by decide) hw3 rfl rfl dX9_areHalves_1 ?_
  refine lv_iconst (v := (0 : Int32)) hx hb dX9_areHalves_4 (by decide) ?_
  refine gx_iald (f := (σ.2.2.1 56)) hx hb hK hG (ga_56 g _) (by decide) dX9_areHalves_5 ?_
  refine lv_i2l hx hb dX9_areHalves_6 rfl ?_
  refine lv_aload_n hx hb dX9_areHalves_7 rfl (lv_at hl 0 rfl) ?_
  refine gx_get (v := .long (σ.2.1 3224)) (C := RX9) (T := TX9) (N := 44) hx hb hts mc_X9 hown hK hG (ga_50 g _) rfl 24 (by decide) hw4 rfl rfl dX9_areHalves_8 ?_
  refine lv_lmul hx hb dX9_areHalves_11 ?_
  refine lv_ldc2 hx hb hown hw2 dX9_areHalves_12 ?_
  refine lv_lrem hx hb dX9_areHalves_15 (by decide) ?_
  refine lv_lconst (v := (0 : Int64)) hx hb dX9_areHalves_16 (by decide) ?_
  refine W.lcmp hx hb dX9_areHalves_17 ?_
  refine lv_if_ne (tgt := 25) hx hb dX9_areHalves_18 (by decide) (fun c8 => ?_) (fun c8 => ?_)
  · have h := ite_f c8 h
    refine lv_iconst (v := (0 : Int32)) hx hb dX9_areHalves_25 (by decide) ?_
    exact n26 (0 : Int32) _ _ _ (lv_sub hl [0] rfl) hG h
  · have h := ite_t c8 h
    refine lv_iconst (v := (1 : Int32)) hx hb dX9_areHalves_21 (by decide) ?_
    refine lv_goto (tgt := 26) hx hb dX9_areHalves_22 (by decide) ?_
    exact n26 (1 : Int32) _ _ _ (lv_sub hl [0] rfl) hG h

