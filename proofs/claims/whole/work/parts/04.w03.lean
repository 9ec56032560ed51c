set_option maxHeartbeats 4000000 in
set_option maxRecDepth 100000 in
theorem c_Wy_isOfSides (l : Launch) (g : GC) (σ : St) (r : Int32) (h : Wy_isOfSides (σ.1 1285) (σ.2.2.1 22) (σ.2.2.1 11) (σ.2.2.1 21) = some r) : Cn l g yX7_isOfSides (Cond.code yX7_isOfSides cX7_isOfSides 5 (some .boolean) :: wG) 1 22 [.ref (g.2.1 20), .ref (g.2.1 10)] σ (some (.int r)) σ := by
  unfold Cn
  refine Met.ofW (cc := cX7_isOfSides) (maxL := 5) (ret := (some .boolean)) (by decide) rfl ?_
  intro p e s m args below meth c s₁ B hml hv
  obtain ⟨hargs, hP0, hK⟩ := hv
  have hx := B.exec
  have hb := B.bytes
  have hr := B.returns
  have hts : ∀ w ∈ wG, w.before args s = true := fun w h => atoms_spec (ws := (Cond.code yX7_isOfSides cX7_isOfSides 5 (some .boolean) :: wG)) B.pre w (List.mem_cons_of_mem _ h)
  have hown : s.vm.findClass RX7 = some m.cls := findClass_of_methodNamed B.named
  have hlocks := B.notSynchronized
  have hS9 : CallFix p m c cX7_isOfSides 5 s args wG RX7 := ⟨hx, hb, hml, hown, hts⟩
  have hw0 := hts _ mw_1_91
  have hw1 := hts _ mw_1_55
  have hf9 : entryFrame m args 5 = _ := (congrArg (fun a => entryFrame m a 5) hargs).trans (lg_entry_eq m [.ref (g.2.1 20), .ref (g.2.1 10)] 5)
  show Wg p l e 1 22 s m args below meth c g (some (.int r)) σ s.heap [] (entryFrame m args 5)
  rw [hf9]
  have hl := lv_entry ([.ref (g.2.1 20), .ref (g.2.1 10)]) (n := 5) (Nat.le_of_ble_eq_true rfl)
  generalize (lg_sl ([.ref (g.2.1 20), .ref (g.2.1 10)]) ++ List.replicate (5 - (lg_sl ([.ref (g.2.1 20), .ref (g.2.1 10)])).length) Slot.unset).toArray = ls at hl ⊢
  have hl : lv_has ls 5 [(0, .ref (g.2.1 20)), (1, .ref (g.2.1 10))] := hl
  have hG : GW g s σ s.heap [] := ⟨hP0, va_S.rf⟩
  unfold Wy_isOfSides at h
  have n45 : ∀  (H : Heap) (locs : List Loc) (ls : Array Slot), lv_has ls 5 [] → GW g s σ H locs → Wy_isOfSides_n45 = some r → Wg p l e 1 22 s m args below meth c g (some (.int r)) σ H locs (F0 m 45 ls []) := by
    intro H locs ls hl hG h
    unfold Wy_isOfSides_n45 at h
    refine lv_iconst (v := (0 : Int32)) hx hb dX7_isOfSides_45 (by decide) ?_
    cases h
    exact gx_zret hx hb hr hlocks (by decide) hG dX7_isOfSides_46
  have n53 : ∀ (k2 : Int32 → Option (Int32)) (hk2 : ∀ (x2 : Int32) (H : Heap) (locs : List Loc) (ls : Array Slot), lv_has ls 5 [(0, .ref (g.2.1 20)), (1, .ref (g.2.1 10)), (2, .int x2)] → GW g s σ H locs → k2 x2 = some r → Wg p l e 1 22 s m args below meth c g (some (.int r)) σ H locs (F0 m 2 ls [])) (x2 : Int32) (H : Heap) (locs : List Loc) (ls : Array Slot), lv_has ls 5 [(0, .ref (g.2.1 20)), (1, .ref (g.2.1 10)), (2, .int x2)] → GW g s σ H locs → Wy_isOfSides_n53 k2 x2 = some r → Wg p l e 1 22 s m args below meth c g (some (.int r)) σ H locs (F0 m 53 ls []) := by
    intro k2 hk2 x2 H locs ls hl hG h
    unfold Wy_isOfSides_n53 at h
    refine lv_iinc (v := (x2 + (1 : Int32))) (lv' := [(2, .int (x2 + (1 : Int32))), (0, .ref (g.2.1 20)), (1, .ref (g.2.1 10))]) hx hb dX7_isOfSides_53 hl (k := 2) rfl (congrArg (fun z => x2 + z) (by decide)) (Nat.le_of_ble_eq_true rfl) rfl (fun ls hl => ?_)
    refine lv_goto (tgt := 2) hx hb dX7_isOfSides_56 (by decide) ?_
    exact hk2 (x2 + (1 : Int32)) _ _ _ (lv_sub hl [1, 2, 0] rfl) hG h
  have n12 : ∀ (k2 : Int32 → Option (Int32)) (hk2 : ∀ (x2 : Int32) (H : Heap) (locs : List Loc) (ls : Array Slot), lv_has ls 5 [(0, .ref (g.2.1 20)), (1, .ref (g.2.1 10)), (2, .int x2)] → GW g s σ H locs → k2 x2 = some r → Wg p l e 1 22 s m args below meth c g (some (.int r)) σ H locs (F0 m 2 ls [])) (k12 : Int32 → Int32 → Option (Int32)) (hk12 : ∀ (x2 : Int32) (x3 : Int32) (H : Heap) (locs : List Loc) (ls : Array Slot), lv_has ls 5 [(0, .ref (g.2.1 20)), (1, .ref (g.2.1 10)), (2, .int x2), (3, .int x3)] → GW g s σ H locs → k12 x2 x3 = some r → Wg p l e 1 22 s m args below meth c g (some (.int r)) σ H locs (F0 m 12 ls [])) (x2 : Int32) (x3 : Int32) (H : Heap) (locs : List Loc) (ls : Array Slot), lv_has ls 5 [(0, .ref (g.2.1 20)), (1, .ref (g.2.1 10)), (2, .int x2), (3, .int x3)] → GW g s σ H locs → Wy_isOfSides_n12 k2 k12 (σ.1 1285) (σ.2.2.1 22) (σ.2.2.1 11) (σ.2.2.1 21) x2 x3 = some r → Wg p l e 1 22 s m args below meth c g (some (.int r)) σ H locs (F0 m 12 ls []) := by
    intro k2 hk2 k12 hk12 x2 x3 H locs ls hl hG h
    unfold Wy_isOfSides_n12 at h
    refine lv_iload_n hx hb dX7_isOfSides_12 rfl (lv_at hl 3 rfl) ?_
    refine lv_aload_n hx hb dX7_isOfSides_13 rfl (lv_at hl 0 rfl) ?_
    refine gx_get (v := .int (σ.1 1285)) (C := RX7) (T := TX7) (N := 7) hx hb hts mc_X7 hown hK hG (ga_20 g _) rfl 5 (by decide) hw0 rfl rfl dX7_isOfSides_14 ?_
    refine lv_icmp_ge (tgt := 53) hx hb dX7_isOfSides_17 (by decide) (fun c1 => ?_) (fun c1 => ?_)
    · have h := ite_t c1 h
      exact n53 k2 hk2 x2 _ _ _ (lv_sub hl [0, 1, 2] rfl) hG h
    · have h := ite_f c1 h
      refine lv_aload_n hx hb dX7_isOfSides_20 rfl (lv_at hl 0 rfl) ?_
      refine lv_iload_n hx hb dX7_isOfSides_21 rfl (lv_at hl 2 rfl) ?_
      refine lv_iload_n hx hb dX7_isOfSides_22 rfl (lv_at hl 3 rfl) ?_
      obtain ⟨z2, hc3, h⟩ := bnd_some h
      refine gx_cV (σ' := σ) (r := (some (.int z2))) (rest := []) (As := [.int x2, .int x3]) hS9 (c_Wy_between l g σ x2 x3 z2 hc3) rfl (cwV 2 hts (gz_V mw_3_60 mw_3_34 mw_3_35 mw_1_5 mw_3_36) rfl rfl rfl hdV_X7_between ⟨Nat.le_of_ble_eq_true rfl, Nat.le_of_ble_eq_true rfl⟩) hK hG (ga_20 g _) rfl rfl rfl hl.1 rfl (Nat.le_of_ble_eq_true rfl) dX7_isOfSides_23 (fun H locs hG => ?_)
      refine W.eq (g2 := F0 m 26 ls [.int z2]) rfl ?_
      refine lv_istore (lv' := [(4, .int z2), (0, .ref (g.2.1 20)), (1, .ref (g.2.1 10)), (2, .int x2), (3, .int x3)]) hx hb dX7_isOfSides_26 hl (Nat.le_of_ble_eq_true rfl) rfl (fun ls hl => ?_)
      refine lv_aload_n hx hb dX7_isOfSides_28 rfl (lv_at hl 2 rfl) ?_
      refine gx_get (v := .ref (g.2.1 11)) (C := RX2) (T := TX2) (N := 2) hx hb hts mc_X2 hown hK hG (ga_10 g _) rfl 0 (by decide) hw1 rfl rfl dX7_isOfSides_29 ?_
      refine lv_iload_n hx hb dX7_isOfSides_32 rfl (lv_at hl 4 rfl) ?_
      obtain ⟨hg4, h⟩ := gd_some h
      refine gx_iald (f := (σ.2.2.1 11)) hx hb hK hG (ga_11 g _) hg4 dX7_isOfSides_33 ?_
      refine lv_aload_n hx hb dX7_isOfSides_34 rfl (lv_at hl 1 rfl) ?_
      refine lv_iload_n hx hb dX7_isOfSides_35 rfl (lv_at hl 3 rfl) ?_
      refine lv_iload hx hb dX7_isOfSides_36 (lv_at hl 0 rfl) ?_
      obtain ⟨z5, hc6, h⟩ := bnd_some h
      refine gx_cV (σ' := σ) (r := (some (.int z5))) (rest := [.int ((σ.2.2.1 11) (x3.toNatClampNeg))]) (As := [.int x2, .int z2]) hS9 (c_Wy_postsAt l g σ x2 z2 z5 hc6) rfl (cwV 2 hts (gz_V mw_3_61 mw_3_62 mw_3_63 mw_1_5 mw_3_64) rfl rfl rfl hdV_X7_postsAt ⟨Nat.le_of_ble_eq_true rfl, Nat.le_of_ble_eq_true rfl⟩) hK hG (ga_20 g _) rfl rfl rfl hl.1 rfl (Nat.le_of_ble_eq_true rfl) dX7_isOfSides_38 (fun H locs hG => ?_)
      refine W.eq (g2 := F0 m 41 ls [.int z5, .int ((σ.2.2.1 11) (x3.toNatClampNeg))]) rfl ?_
      refine lv_iand hx hb dX7_isOfSides_41 ?_
      refine lv_if_eq (tgt := 47) hx hb dX7_isOfSides_42 (by decide) (fun c7 => ?_) (fun c7 => ?_)
      · have h := ite_t c7 h
        refine lv_iinc (v := (x3 + (1 : Int32))) (lv' := [(3, .int (x3 + (1 : Int32))), (4, .int z2), (0, .ref (g.2.1 20)), (1, .ref (g.2.1 10)), (2, .int x2)]) hx hb dX7_isOfSides_47 hl (k := 4) rfl (congrArg (fun z => x3 + z) (by decide)) (Nat.le_of_ble_eq_true rfl) rfl (fun ls hl => ?_)
        refine lv_goto (tgt := 12) hx hb dX7_isOfSides_50 (by decide) ?_
        exact hk12 x2 (x3 + (1 : Int32)) _ _ _ (lv_sub hl [2, 3, 4, 0] rfl) hG h
      · have h := ite_f c7 h
        exact n45 _ _ _ (lv_sub hl [] rfl) hG h
  have l12 : ∀ (k2 : Int32 → Option (Int32)) (hk2 : ∀ (x2 : Int32) (H : Heap) (locs : List Loc) (ls : Array Slot), lv_has ls 5 [(0, .ref (g.2.1 20)), (1, .ref (g.2.1 10)), (2, .int x2)] → GW g s σ H locs → k2 x2 = some r → Wg p l e 1 22 s m args below meth c g (some (.int r)) σ H locs (F0 m 2 ls [])) (F : Nat) (x2 : Int32) (x3 : Int32) (H : Heap) (locs : List Loc) (ls : Array Slot), lv_has ls 5 [(0, .ref (g.2.1 20)), (1, .ref (g.2.1 10)), (2, .int x2), (3, .int x3)] → GW g s σ H locs → Wy_isOfSides_l12 k2 (σ.1 1285) (σ.2.2.1 22) (σ.2.2.1 11) (σ.2.2.1 21) F x2 x3 = some r → Wg p l e 1 22 s m args below meth c g (some (.int r)) σ H locs (F0 m 12 ls []) := by
    intro k2 hk2 F
    induction F with
    | zero => intro x2 x3 H locs ls hl hG h; exact no_some h
    | succ F ih => intro x2 x3 H locs ls hl hG h; exact n12 k2 hk2 (fun x2 x3 => Wy_isOfSides_l12 k2 (σ.1 1285) (σ.2.2.1 22) (σ.2.2.1 11) (σ.2.2.1 21) F x2 x3) ih x2 x3 H locs ls hl hG h
  have n59 : ∀  (H : Heap) (locs : List Loc) (ls : Array Slot), lv_has ls 5 [] → GW g s σ H locs → Wy_isOfSides_n59 = some r → Wg p l e 1 22 s m args below meth c g (some (.int r)) σ H locs (F0 m 59 ls []) := by
    intro H locs ls hl hG h
    unfold Wy_isOfSides_n59 at h
    refine lv_iconst (v := (1 : Int32)) hx hb dX7_isOfSides_59 (by decide) ?_
    cases h
    exact gx_zret hx hb hr hlocks (by decide) hG dX7_isOfSides_60
  have n2 : ∀ (k2 : Int32 → Option (Int32)) (hk2 : ∀ (x2 : Int32) (H : Heap) (locs : List Loc) (ls : Array Slot), lv_has ls 5 [(0, .ref (g.2.1 20)), (1, .ref (g.2.1 10)), (2, .int x2)] → GW g s σ H locs → k2 x2 = some r → Wg p l e 1 22 s m args below meth c g (some (.int r)) σ H locs (F0 m 2 ls [])) (x2 : Int32) (H : Heap) (locs : List Loc) (ls : Array Slot), lv_has ls 5 [(0, .ref (g.2.1 20)), (1, .ref (g.2.1 10)), (2, .int x2)] → GW g s σ H locs → Wy_isOfSides_n2 k2 (σ.1 1285) (σ.2.2.1 22) (σ.2.2.1 11) (σ.2.2.1 21) x2 = some r → Wg p l e 1 22 s m args below meth c g (some (.int r)) σ H locs (F0 m 2 ls []) := by
    intro k2 hk2 x2 H locs ls hl hG h
    unfold Wy_isOfSides_n2 at h
    refine lv_iload_n hx hb dX7_isOfSides_2 rfl (lv_at hl 2 rfl) ?_
    refine lv_aload_n hx hb dX7_isOfSides_3 rfl (lv_at hl 0 rfl) ?_
    refine gx_get (v := .int (σ.1 1285)) (C := RX7) (T := TX7) (N := 7) hx hb hts mc_X7 hown hK hG (ga_20 g _) rfl 5 (by decide) hw0 rfl rfl dX7_isOfSides_4 ?_
    refine lv_icmp_ge (tgt := 59) hx hb dX7_isOfSides_7 (by decide) (fun c8 => ?_) (fun c8 => ?_)
    · have h := ite_t c8 h
      exact n59 _ _ _ (lv_sub hl [] rfl) hG h
    · have h := ite_f c8 h
      refine lv_iconst (v := (0 : Int32)) hx hb dX7_isOfSides_10 (by decide) ?_
      refine lv_istore_n (lv' := [(3, .int (0 : Int32)), (0, .ref (g.2.1 20)), (1, .ref (g.2.1 10)), (2, .int x2)]) hx hb dX7_isOfSides_11 rfl hl (Nat.le_of_ble_eq_true rfl) rfl (fun ls hl => ?_)
      exact l12 k2 hk2 FUEL x2 (0 : Int32) _ _ _ (lv_sub hl [1, 2, 3, 0] rfl) hG h
  have l2 : ∀  (F : Nat) (x2 : Int32) (H : Heap) (locs : List Loc) (ls : Array Slot), lv_has ls 5 [(0, .ref (g.2.1 20)), (1, .ref (g.2.1 10)), (2, .int x2)] → GW g s σ H locs → Wy_isOfSides_l2 (σ.1 1285) (σ.2.2.1 22) (σ.2.2.1 11) (σ.2.2.1 21) F x2 = some r → Wg p l e 1 22 s m args below meth c g (some (.int r)) σ H locs (F0 m 2 ls []) := by
    intro F
    induction F with
    | zero => intro x2 H locs ls hl hG h; exact no_some h
    | succ F ih => intro x2 H locs ls hl hG h; exact n2 (fun x2 => Wy_isOfSides_l2 (σ.1 1285) (σ.2.2.1 22) (σ.2.2.1 11) (σ.2.2.1 21) F x2) ih x2 H locs ls hl hG h
  refine lv_iconst (v := (0 : Int32)) hx hb dX7_isOfSides_0 (by decide) ?_
  refine lv_istore_n (lv' := [(2, .int (0 : Int32)), (0, .ref (g.2.1 20)), (1, .ref (g.2.1 10))]) hx hb dX7_isOfSides_1 rfl hl (Nat.le_of_ble_eq_true rfl) rfl (fun ls hl => ?_)
  exact l2 FUEL (0 : Int32) _ _ _ (lv_sub hl [1, 2, 0] rfl) hG h

set_option maxHeartbeats 4000000 in
set_option maxRecDepth 100000 in
theorem c_LN_half (l : Launch) (g : GC) (σ : St) (r : Int32) (w_likeness_ready : Int32) (w_made_size : Int32) (w_now_size : Int32) (w_pairs_ready : Int32) (w_search_reach : Int32) (w_ways_far : Int32) (w_ways_ready : Int32) (w_ways_size : Int32) (w_ways_whole : Int32) (w_list : Nat → Int32) (w_made_near : Nat → Int32) (w_now_near : Nat → Int32) (w_ways_layers : Nat → Int32) (w_ways_reached : Nat → Int32) (w_ways_steps : Nat → Int32) (h : LN_half (σ.1 1539) (σ.1 769) (σ.1 641) (σ.1 2632) (σ.1 2372) (σ.1 1286) (σ.1 1283) (σ.1 1285) (σ.1 1284) (σ.2.2.1 16) (σ.2.2.1 13) (σ.2.2.1 11) (σ.2.2.1 22) (σ.2.2.1 23) (σ.2.2.1 21) = some (r, w_likeness_ready, w_made_size, w_now_size, w_pairs_ready, w_search_reach, w_ways_far, w_ways_ready, w_ways_size, w_ways_whole, w_list, w_made_near, w_now_near, w_ways_layers, w_ways_reached, w_ways_steps)) : Cn l g yX8_half (Cond.code yX8_half cX8_half 4 (some .int) :: wG) 5 114 [.ref (g.2.1 0)] σ (some (.int r)) (mkS σ [(1539, w_likeness_ready), (769, w_made_size), (641, w_now_size), (2632, w_pairs_ready), (2372, w_search_reach), (1286, w_ways_far), (1283, w_ways_ready), (1285, w_ways_size), (1284, w_ways_whole)] [] [(16, w_list), (13, w_made_near), (11, w_now_near), (22, w_ways_layers), (23, w_ways_reached), (21, w_ways_steps)] []) := by
  unfold Cn
  refine Met.ofW (cc := cX8_half) (maxL := 4) (ret := (some .int)) (by decide) rfl ?_
  intro p e s m args below meth c s₁ B hml hv
  obtain ⟨hargs, hP0, hK⟩ := hv
  have hx := B.exec
  have hb := B.bytes
  have hr := B.returns
  have hts : ∀ w ∈ wG, w.before args s = true := fun w h => atoms_spec (ws := (Cond.code yX8_half cX8_half 4 (some .int) :: wG)) B.pre w (List.mem_cons_of_mem _ h)
  have hown : s.vm.findClass RX8 = some m.cls := findClass_of_methodNamed B.named
  have hlocks := B.notSynchronized
  have hS9 : CallFix p m c cX8_half 4 s args wG RX8 := ⟨hx, hb, hml, hown, hts⟩
  have hw0 := hts _ mw_2_44
  have hw1 := hts _ mw_2_41
  have hw2 := hts _ mw_2_39
  have hw3 := hts _ mw_2_38
  have hw4 := hts _ mw_1_61
  have hw5 := hts _ mw_1_90
  have hf9 : entryFrame m args 4 = _ := (congrArg (fun a => entryFrame m a 4) hargs).trans (lg_entry_eq m [.ref (g.2.1 0)] 4)
  show Wg p l e 5 114 s m args below meth c g (some (.int r)) (mkS σ [(1539, w_likeness_ready), (769, w_made_size), (641, w_now_size), (2632, w_pairs_ready), (2372, w_search_reach), (1286, w_ways_far), (1283, w_ways_ready), (1285, w_ways_size), (1284, w_ways_whole)] [] [(16, w_list), (13, w_made_near), (11, w_now_near), (22, w_ways_layers), (23, w_ways_reached), (21, w_ways_steps)] []) s.heap [] (entryFrame m args 4)
  rw [hf9]
  have hl := lv_entry ([.ref (g.2.1 0)]) (n := 4) (Nat.le_of_ble_eq_true rfl)
  generalize (lg_sl ([.ref (g.2.1 0)]) ++ List.replicate (4 - (lg_sl ([.ref (g.2.1 0)])).length) Slot.unset).toArray = ls at hl ⊢
  have hl : lv_has ls 4 [(0, .ref (g.2.1 0))] := hl
  have hG : GW g s σ s.heap [] := ⟨hP0, va_S.rf⟩
  have hG : GW g s (mkS σ [(1539, (σ.1 1539)), (769, (σ.1 769)), (641, (σ.1 641)), (2632, (σ.1 2632)), (2372, (σ.1 2372)), (1286, (σ.1 1286)), (1283, (σ.1 1283)), (1285, (σ.1 1285)), (1284, (σ.1 1284))] [] [(16, (σ.2.2.1 16)), (13, (σ.2.2.1 13)), (11, (σ.2.2.1 11)), (22, (σ.2.2.1 22)), (23, (σ.2.2.1 23)), (21, (σ.2.2.1 21))] []) s.heap [] := GW_self [1539, 769, 641, 2632, 2372, 1286, 1283, 1285, 1284] [] [16, 13, 11, 22, 23, 21] [] hG
  unfold LN_half at h
  have n28 : ∀ (v_likeness_ready : Int32) (v_made_size : Int32) (v_now_size : Int32) (v_pairs_ready : Int32) (v_search_reach : Int32) (v_ways_far : Int32) (v_ways_ready : Int32) (v_ways_size : Int32) (v_ways_whole : Int32) (v_list : Nat → Int32) (v_made_near : Nat → Int32) (v_now_near : Nat → Int32) (v_ways_layers : Nat → Int32) (v_ways_reached : Nat → Int32) (v_ways_steps : Nat → Int32) (H : Heap) (locs : List Loc) (ls : Array Slot), lv_has ls 4 [] → GW g s (mkS σ [(1539, v_likeness_ready), (769, v_made_size), (641, v_now_size), (2632, v_pairs_ready), (2372, v_search_reach), (1286, v_ways_far), (1283, v_ways_ready), (1285, v_ways_size), (1284, v_ways_whole)] [] [(16, v_list), (13, v_made_near), (11, v_now_near), (22, v_ways_layers), (23, v_ways_reached), (21, v_ways_steps)] []) H locs → LN_half_n28 v_likeness_ready v_made_size v_now_size v_pairs_ready v_search_reach v_ways_far v_ways_ready v_ways_size v_ways_whole v_list v_made_near v_now_near v_ways_layers v_ways_reached v_ways_steps = some (r, w_likeness_ready, w_made_size, w_now_size, w_pairs_ready, w_search_reach, w_ways_far, w_ways_ready, w_ways_size, w_ways_whole, w_list, w_made_near, w_now_near, w_ways_layers, w_ways_reached, w_ways_steps) → Wg p l e 5 114 s m args below meth c g (some (.int r)) (mkS σ [(1539, w_likeness_ready), (769, w_made_size), (641, w_now_size), (2632, w_pairs_ready), (2372, w_search_reach), (1286, w_ways_far), (1283, w_ways_ready), (1285, w_ways_size), (1284, w_ways_whole)] [] [(16, w_list), (13, w_made_near), (11, w_now_near), (22, w_ways_layers), (23, w_ways_reached), (21, w_ways_steps)] []) H locs (F0 m 28 ls []) := by
    intro v_likeness_ready v_made_size v_now_size v_pairs_ready v_search_reach v_ways_far v_ways_ready v_ways_size v_ways_whole v_list v_made_near v_now_near v_ways_layers v_ways_reached v_ways_steps H locs ls hl hG h
    unfold LN_half_n28 at h
    refine lv_bipush (v := (-5 : Int32)) hx hb dX8_half_28 (by decide) ?_
    cases h
    exact gx_iret hx hb hr hlocks hG dX8_half_30
  have n70 : ∀ (k35 : Int32 → Int32 → Int32 → Int32 → Int32 → Int32 → Int32 → Int32 → Int32 → Int32 → Int32 → (Nat → Int32) → (Nat → Int32) → (Nat → Int32) → (Nat → Int32) → (Nat → Int32) → (Nat → Int32) → Option (Int32 × Int32 × Int32 × Int32 × Int32 × Int32 × Int32 × Int32 × Int32 × Int32 × (Nat → Int32) × (Nat → Int32) × (Nat → Int32) × (Nat → Int32) × (Nat → Int32) × (Nat → Int32))) (hk35 : ∀ (x1 : Int32) (x2 : Int32) (v_likeness_ready : Int32) (v_made_size : Int32) (v_now_size : Int32) (v_pairs_ready : Int32) (v_search_reach : Int32) (v_ways_far : Int32) (v_ways_ready : Int32) (v_ways_size : Int32) (v_ways_whole : Int32) (v_list : Nat → Int32) (v_made_near : Nat → Int32) (v_now_near : Nat → Int32) (v_ways_layers : Nat → Int32) (v_ways_reached : Nat → Int32) (v_ways_steps : Nat → Int32) (H : Heap) (locs : List Loc) (ls : Array Slot), lv_has ls 4 [(0, .ref (g.2.1 0)), (1, .int x1), (2, .int x2)] → GW g s (mkS σ [(1539, v_likeness_ready), (769, v_made_size), (641, v_now_size), (2632, v_pairs_ready), (2372, v_search_reach), (1286, v_ways_far), (1283, v_ways_ready), (1285, v_ways_size), (1284, v_ways_whole)] [] [(16, v_list), (13, v_made_near), (11, v_now_near), (22, v_ways_layers), (23, v_ways_reached), (21, v_ways_steps)] []) H locs → k35 x1 x2 v_likeness_ready v_made_size v_now_size v_pairs_ready v_search_reach v_ways_far v_ways_ready v_ways_size v_ways_whole v_list v_made_near v_now_near v_ways_layers v_ways_reached v_ways_steps = some (r, w_likeness_ready, w_made_size, w_now_size, w_pairs_ready, w_search_reach, w_ways_far, w_ways_ready, w_ways_size, w_ways_whole, w_list, w_made_near, w_now_near, w_ways_layers, w_ways_reached, w_ways_steps) → Wg p l e 5 114 s m args below meth c g (some (.int r)) (mkS σ [(1539, w_likeness_ready), (769, w_made_size), (641, w_now_size), (2632, w_pairs_ready), (2372, w_search_reach), (1286, w_ways_far), (1283, w_ways_ready), (1285, w_ways_size), (1284, w_ways_whole)] [] [(16, w_list), (13, w_made_near), (11, w_now_near), (22, w_ways_layers), (23, w_ways_reached), (21, w_ways_steps)] []) H locs (F0 m 35 ls [])) (x1 : Int32) (x2 : Int32) (v_likeness_ready : Int32) (v_made_size : Int32) (v_now_size : Int32) (v_pairs_ready : Int32) (v_search_reach : Int32) (v_ways_far : Int32) (v_ways_ready : Int32) (v_ways_size : Int32) (v_ways_whole : Int32) (v_list : Nat → Int32) (v_made_near : Nat → Int32) (v_now_near : Nat → Int32) (v_ways_layers : Nat → Int32) (v_ways_reached : Nat → Int32) (v_ways_steps : Nat → Int32) (H : Heap) (locs : List Loc) (ls : Array Slot), lv_has ls 4 [(0, .ref (g.2.1 0)), (1, .int x1), (2, .int x2)] → GW g s (mkS σ [(1539, v_likeness_ready), (769, v_made_size), (641, v_now_size), (2632, v_pairs_ready), (2372, v_search_reach), (1286, v_ways_far), (1283, v_ways_ready), (1285, v_ways_size), (1284, v_ways_whole)] [] [(16, v_list), (13, v_made_near), (11, v_now_near), (22, v_ways_layers), (23, v_ways_reached), (21, v_ways_steps)] []) H locs → LN_half_n70 k35 x1 x2 v_likeness_ready v_made_size v_now_size v_pairs_ready v_search_reach v_ways_far v_ways_ready v_ways_size v_ways_whole v_list v_made_near v_now_near v_ways_layers v_ways_reached v_ways_steps = some (r, w_likeness_ready, w_made_size, w_now_size, w_pairs_ready, w_search_reach, w_ways_far, w_ways_ready, w_ways_size, w_ways_whole, w_list, w_made_near, w_now_near, w_ways_layers, w_ways_reached, w_ways_steps) → Wg p l e 5 114 s m args below meth c g (some (.int r)) (mkS σ [(1539, w_likeness_ready), (769, w_made_size), (641, w_now_size), (2632, w_pairs_ready), (2372, w_search_reach), (1286, w_ways_far), (1283, w_ways_ready), (1285, w_ways_size), (1284, w_ways_whole)] [] [(16, w_list), (13, w_made_near), (11, w_now_near), (22, w_ways_layers), (23, w_ways_reached), (21, w_ways_steps)] []) H locs (F0 m 70 ls []) := by
    intro k35 hk35 x1 x2 v_likeness_ready v_made_size v_now_size v_pairs_ready v_search_reach v_ways_far v_ways_ready v_ways_size v_ways_whole v_list v_made_near v_now_near v_ways_layers v_ways_reached v_ways_steps H locs ls hl hG h
    unfold LN_half_n70 at h
    refine lv_iinc (v := (x2 + (1 : Int32))) (lv' := [(2, .int (x2 + (1 : Int32))), (0, .ref (g.2.1 0)), (1, .int x1)]) hx hb dX8_half_70 hl (k := 2) rfl (congrArg (fun z => x2 + z) (by decide)) (Nat.le_of_ble_eq_true rfl) rfl (fun ls hl => ?_)
    refine lv_goto (tgt := 35) hx hb dX8_half_73 (by decide) ?_
    exact hk35 x1 (x2 + (1 : Int32)) v_likeness_ready v_made_size v_now_size v_pairs_ready v_search_reach v_ways_far v_ways_ready v_ways_size v_ways_whole v_list v_made_near v_now_near v_ways_layers v_ways_reached v_ways_steps _ _ _ (lv_sub hl [1, 2, 0] rfl) hG h
  have n132 : ∀ (k95 : Int32 → Int32 → Int32 → Int32 → Int32 → Int32 → Int32 → Int32 → Int32 → Int32 → Int32 → Int32 → (Nat → Int32) → (Nat → Int32) → (Nat → Int32) → (Nat → Int32) → (Nat → Int32) → (Nat → Int32) → Option (Int32 × Int32 × Int32 × Int32 × Int32 × Int32 × Int32 × Int32 × Int32 × Int32 × (Nat → Int32) × (Nat → Int32) × (Nat → Int32) × (Nat → Int32) × (Nat → Int32) × (Nat → Int32))) (hk95 : ∀ (x1 : Int32) (x2 : Int32) (x3 : Int32) (v_likeness_ready : Int32) (v_made_size : Int32) (v_now_size : Int32) (v_pairs_ready : Int32) (v_search_reach : Int32) (v_ways_far : Int32) (v_ways_ready : Int32) (v_ways_size : Int32) (v_ways_whole : Int32) (v_list : Nat → Int32) (v_made_near : Nat → Int32) (v_now_near : Nat → Int32) (v_ways_layers : Nat → Int32) (v_ways_reached : Nat → Int32) (v_ways_steps : Nat → Int32) (H : Heap) (locs : List Loc) (ls : Array Slot), lv_has ls 4 [(0, .ref (g.2.1 0)), (1, .int x1), (2, .int x2), (3, .int x3)] → GW g s (mkS σ [(1539, v_likeness_ready), (769, v_made_size), (641, v_now_size), (2632, v_pairs_ready), (2372, v_search_reach), (1286, v_ways_far), (1283, v_ways_ready), (1285, v_ways_size), (1284, v_ways_whole)] [] [(16, v_list), (13, v_made_near), (11, v_now_near), (22, v_ways_layers), (23, v_ways_reached), (21, v_ways_steps)] []) H locs → k95 x1 x2 x3 v_likeness_ready v_made_size v_now_size v_pairs_ready v_search_reach v_ways_far v_ways_ready v_ways_size v_ways_whole v_list v_made_near v_now_near v_ways_layers v_ways_reached v_ways_steps = some (r, w_likeness_ready, w_made_size, w_now_size, w_pairs_ready, w_search_reach, w_ways_far, w_ways_ready, w_ways_size, w_ways_whole, w_list, w_made_near, w_now_near, w_ways_layers, w_ways_reached, w_ways_steps) → Wg p l e 5 114 s m args below meth c g (some (.int r)) (mkS σ [(1539, w_likeness_ready), (769, w_made_size), (641, w_now_size), (2632, w_pairs_ready), (2372, w_search_reach), (1286, w_ways_far), (1283, w_ways_ready), (1285, w_ways_size), (1284, w_ways_whole)] [] [(16, w_list), (13, w_made_near), (11, w_now_near), (22, w_ways_layers), (23, w_ways_reached), (21, w_ways_steps)] []) H locs (F0 m 95 ls [])) (x1 : Int32) (x2 : Int32) (x3 : Int32) (v_likeness_ready : Int32) (v_made_size : Int32) (v_now_size : Int32) (v_pairs_ready : Int32) (v_search_reach : Int32) (v_ways_far : Int32) (v_ways_ready : Int32) (v_ways_size : Int32) (v_ways_whole : Int32) (v_list : Nat → Int32) (v_made_near : Nat → Int32) (v_now_near : Nat → Int32) (v_ways_layers : Nat → Int32) (v_ways_reached : Nat → Int32) (v_ways_steps : Nat → Int32) (H : Heap) (locs : List Loc) (ls : Array Slot), lv_has ls 4 [(0, .ref (g.2.1 0)), (1, .int x1), (2, .int x2), (3, .int x3)] → GW g s (mkS σ [(1539, v_likeness_ready), (769, v_made_size), (641, v_now_size), (2632, v_pairs_ready), (2372, v_search_reach), (1286, v_ways_far), (1283, v_ways_ready), (1285, v_ways_size), (1284, v_ways_whole)] [] [(16, v_list), (13, v_made_near), (11, v_now_near), (22, v_ways_layers), (23, v_ways_reached), (21, v_ways_steps)] []) H locs → LN_half_n132 k95 x1 x2 x3 v_likeness_ready v_made_size v_now_size v_pairs_ready v_search_reach v_ways_far v_ways_ready v_ways_size v_ways_whole v_list v_made_near v_now_near v_ways_layers v_ways_reached v_ways_steps = some (r, w_likeness_ready, w_made_size, w_now_size, w_pairs_ready, w_search_reach, w_ways_far, w_ways_ready, w_ways_size, w_ways_whole, w_list, w_made_near, w_now_near, w_ways_layers, w_ways_reached, w_ways_steps) → Wg p l e 5 114 s m args below meth c g (some (.int r)) (mkS σ [(1539, w_likeness_ready), (769, w_made_size), (641, w_now_size), (2632, w_pairs_ready), (2372, w_search_reach), (1286, w_ways_far), (1283, w_ways_ready), (1285, w_ways_size), (1284, w_ways_whole)] [] [(16, w_list), (13, w_made_near), (11, w_now_near), (22, w_ways_layers), (23, w_ways_reached), (21, w_ways_steps)] []) H locs (F0 m 132 ls []) := by
    intro k95 hk95 x1 x2 x3 v_likeness_ready v_made_size v_now_size v_pairs_ready v_search_reach v_ways_far v_ways_ready v_ways_size v_ways_whole v_list v_made_near v_now_near v_ways_layers v_ways_reached v_ways_steps H locs ls hl hG h
    unfold LN_half_n132 at h
    refine lv_iinc (v := (x3 + (1 : Int32))) (lv' := [(3, .int (x3 + (1 : Int32))), (0, .ref (g.2.1 0)), (1, .int x1), (2, .int x2)]) hx hb dX8_half_132 hl (k := 3) rfl (congrArg (fun z => x3 + z) (by decide)) (Nat.le_of_ble_eq_true rfl) rfl (fun ls hl => ?_)
    refine lv_goto (tgt := 95) hx hb dX8_half_135 (by decide) ?_
    exact hk95 x1 x2 (x3 + (1 : Int32)) v_likeness_ready v_made_size v_now_size v_pairs_ready v_search_reach v_ways_far v_ways_ready v_ways_size v_ways_whole v_list v_made_near v_now_near v_ways_layers v_ways_reached v_ways_steps _ _ _ (lv_sub hl [1, 2, 3, 0] rfl) hG h
  have n138 : ∀ (k86 : Int32 → Int32 → Int32 → Int32 → Int32 → Int32 → Int32 → Int32 → Int32 → Int32 → Int32 → (Nat → Int32) → (Nat → Int32) → (Nat → Int32) → (Nat → Int32) → (Nat → Int32) → (Nat → Int32) → Option (Int32 × Int32 × Int32 × Int32 × Int32 × Int32 × Int32 × Int32 × Int32 × Int32 × (Nat → Int32) × (Nat → Int32) × (Nat → Int32) × (Nat → Int32) × (Nat → Int32) × (Nat → Int32))) (hk86 : ∀ (x1 : Int32) (x2 : Int32) (v_likeness_ready : Int32) (v_made_size : Int32) (v_now_size : Int32) (v_pairs_ready : Int32) (v_search_reach : Int32) (v_ways_far : Int32) (v_ways_ready : Int32) (v_ways_size : Int32) (v_ways_whole : Int32) (v_list : Nat → Int32) (v_made_near : Nat → Int32) (v_now_near : Nat → Int32) (v_ways_layers : Nat → Int32) (v_ways_reached : Nat → Int32) (v_ways_steps : Nat → Int32) (H : Heap) (locs : List Loc) (ls : Array Slot), lv_has ls 4 [(0, .ref (g.2.1 0)), (1, .int x1), (2, .int x2)] → GW g s (mkS σ [(1539, v_likeness_ready), (769, v_made_size), (641, v_now_size), (2632, v_pairs_ready), (2372, v_search_reach), (1286, v_ways_far), (1283, v_ways_ready), (1285, v_ways_size), (1284, v_ways_whole)] [] [(16, v_list), (13, v_made_near), (11, v_now_near), (22, v_ways_layers), (23, v_ways_reached), (21, v_ways_steps)] []) H locs → k86 x1 x2 v_likeness_ready v_made_size v_now_size v_pairs_ready v_search_reach v_ways_far v_ways_ready v_ways_size v_ways_whole v_list v_made_near v_now_near v_ways_layers v_ways_reached v_ways_steps = some (r, w_likeness_ready, w_made_size, w_now_size, w_pairs_ready, w_search_reach, w_ways_far, w_ways_ready, w_ways_size, w_ways_whole, w_list, w_made_near, w_now_near, w_ways_layers, w_ways_reached, w_ways_steps) → Wg p l e 5 114 s m args below meth c g (some (.int r)) (mkS σ [(1539, w_likeness_ready), (769, w_made_size), (641, w_now_size), (2632, w_pairs_ready), (2372, w_search_reach), (1286, w_ways_far), (1283, w_ways_ready), (1285, w_ways_size), (1284, w_ways_whole)] [] [(16, w_list), (13, w_made_near), (11, w_now_near), (22, w_ways_layers), (23, w_ways_reached), (21, w_ways_steps)] []) H locs (F0 m 86 ls [])) (x1 : Int32) (x2 : Int32) (v_likeness_ready : Int32) (v_made_size : Int32) (v_now_size : Int32) (v_pairs_ready : Int32) (v_search_reach : Int32) (v_ways_far : Int32) (v_ways_ready : Int32) (v_ways_size : Int32) (v_ways_whole : Int32) (v_list : Nat → Int32) (v_made_near : Nat → Int32) (v_now_near : Nat → Int32) (v_ways_layers : Nat → Int32) (v_ways_reached : Nat → Int32) (v_ways_steps : Nat → Int32) (H : Heap) (locs : List Loc) (ls : Array Slot), lv_has ls 4 [(0, .ref (g.2.1 0)), (1, .int x1), (2, .int x2)] → GW g s (mkS σ [(1539, v_likeness_ready), (769, v_made_size), (641, v_now_size), (2632, v_pairs_ready), (2372, v_search_reach), (1286, v_ways_far), (1283, v_ways_ready), (1285, v_ways_size), (1284, v_ways_whole)] [] [(16, v_list), (13, v_made_near), (11, v_now_near), (22, v_ways_layers), (23, v_ways_reached), (21, v_ways_steps)] []) H locs → LN_half_n138 k86 x1 x2 v_likeness_ready v_made_size v_now_size v_pairs_ready v_search_reach v_ways_far v_ways_ready v_ways_size v_ways_whole v_list v_made_near v_now_near v_ways_layers v_ways_reached v_ways_steps = some (r, w_likeness_ready, w_made_size, w_now_size, w_pairs_ready, w_search_reach, w_ways_far, w_ways_ready, w_ways_size, w_ways_whole, w_list, w_made_near, w_now_near, w_ways_layers, w_ways_reached, w_ways_steps) → Wg p l e 5 114 s m args below meth c g (some (.int r)) (mkS σ [(1539, w_likeness_ready), (769, w_made_size), (641, w_now_size), (2632, w_pairs_ready), (2372, w_search_reach), (1286, w_ways_far), (1283, w_ways_ready), (1285, w_ways_size), (1284, w_ways_whole)] [] [(16, w_list), (13, w_made_near), (11, w_now_near), (22, w_ways_layers), (23, w_ways_reached), (21, w_ways_steps)] []) H locs (F0 m 138 ls []) := by
    intro k86 hk86 x1 x2 v_likeness_ready v_made_size v_now_size v_pairs_ready v_search_reach v_ways_far v_ways_ready v_ways_size v_ways_whole v_list v_made_near v_now_near v_ways_layers v_ways_reached v_ways_steps H locs ls hl hG h
    unfold LN_half_n138 at h
    refine lv_iinc (v := (x2 + (1 : Int32))) (lv' := [(2, .int (x2 + (1 : Int32))), (0, .ref (g.2.1 0)), (1, .int x1)]) hx hb dX8_half_138 hl (k := 2) rfl (congrArg (fun z => x2 + z) (by decide)) (Nat.le_of_ble_eq_true rfl) rfl (fun ls hl => ?_)
    refine lv_goto (tgt := 86) hx hb dX8_half_141 (by decide) ?_
    exact hk86 x1 (x2 + (1 : Int32)) v_likeness_ready v_made_size v_now_size v_pairs_ready v_search_reach v_ways_far v_ways_ready v_ways_size v_ways_whole v_list v_made_near v_now_near v_ways_layers v_ways_reached v_ways_steps _ _ _ (lv_sub hl [1, 2, 0] rfl) hG h
  have n95 : ∀ (k86 : Int32 → Int32 → Int32 → Int32 → Int32 → Int32 → Int32 → Int32 → Int32 → Int32 → Int32 → (Nat → Int32) → (Nat → Int32) → (Nat → Int32) → (Nat → Int32) → (Nat → Int32) → (Nat → Int32) → Option (Int32 × Int32 × Int32 × Int32 × Int32 × Int32 × Int32 × Int32 × Int32 × Int32 × (Nat → Int32) × (Nat → Int32) × (Nat → Int32) × (Nat → Int32) × (Nat → Int32) × (Nat → Int32))) (hk86 : ∀ (x1 : Int32) (x2 : Int32) (v_likeness_ready : Int32) (v_made_size : Int32) (v_now_size : Int32) (v_pairs_ready : Int32) (v_search_reach : Int32) (v_ways_far : Int32) (v_ways_ready : Int32) (v_ways_size : Int32) (v_ways_whole : Int32) (v_list : Nat → Int32) (v_made_near : Nat → Int32) (v_now_near : Nat → Int32) (v_ways_layers : Nat → Int32) (v_ways_reached : Nat → Int32) (v_ways_steps : Nat → Int32) (H : Heap) (locs : List Loc) (ls : Array Slot), lv_has ls 4 [(0, .ref (g.2.1 0)), (1, .int x1), (2, .int x2)] → GW g s (mkS σ [(1539, v_likeness_ready), (769, v_made_size), (641, v_now_size), (2632, v_pairs_ready), (2372, v_search_reach), (1286, v_ways_far), (1283, v_ways_ready), (1285, v_ways_size), (1284, v_ways_whole)] [] [(16, v_list), (13, v_made_near), (11, v_now_near), (22, v_ways_layers), (23, v_ways_reached), (21, v_ways_steps)] []) H locs → k86 x1 x2 v_likeness_ready v_made_size v_now_size v_pairs_ready v_search_reach v_ways_far v_ways_ready v_ways_size v_ways_whole v_list v_made_near v_now_near v_ways_layers v_ways_reached v_ways_steps = some (r, w_likeness_ready, w_made_size, w_now_size, w_pairs_ready, w_search_reach, w_ways_far, w_ways_ready, w_ways_size, w_ways_whole, w_list, w_made_near, w_now_near, w_ways_layers, w_ways_reached, w_ways_steps) → Wg p l e 5 114 s m args below meth c g (some (.int r)) (mkS σ [(1539, w_likeness_ready), (769, w_made_size), (641, w_now_size), (2632, w_pairs_ready), (2372, w_search_reach), (1286, w_ways_far), (1283, w_ways_ready), (1285, w_ways_size), (1284, w_ways_whole)] [] [(16, w_list), (13, w_made_near), (11, w_now_near), (22, w_ways_layers), (23, w_ways_reached), (21, w_ways_steps)] []) H locs (F0 m 86 ls [])) (k95 : Int32 → Int32 → Int32 → Int32 → Int32 → Int32 → Int32 → Int32 → Int32 → Int32 → Int32 → Int32 → (Nat → Int32) → (Nat → Int32) → (Nat → Int32) → (Nat → Int32) → (Nat → Int32) → (Nat → Int32) → Option (Int32 × Int32 × Int32 × Int32 × Int32 × Int32 × Int32 × Int32 × Int32 × Int32 × (Nat → Int32) × (Nat → Int32) × (Nat → Int32) × (Nat → Int32) × (Nat → Int32) × (Nat → Int32))) (hk95 : ∀ (x1 : Int32) (x2 : Int32) (x3 : Int32) (v_likeness_ready : Int32) (v_made_size : Int32) (v_now_size : Int32) (v_pairs_ready : Int32) (v_search_reach : Int32) (v_ways_far : Int32) (v_ways_ready : Int32) (v_ways_size : Int32) (v_ways_whole : Int32) (v_list : Nat → Int32) (v_made_near : Nat → Int32) (v_now_near : Nat → Int32) (v_ways_layers : Nat → Int32) (v_ways_reached : Nat → Int32) (v_ways_steps : Nat → Int32) (H : Heap) (locs : List Loc) (ls : Array Slot), lv_has ls 4 [(0, .ref (g.2.1 0)), (1, .int x1), (2, .int x2), (3, .int x3)] → GW g s (mkS σ [(1539, v_likeness_ready), (769, v_made_size), (641, v_now_size), (2632, v_pairs_ready), (2372, v_search_reach), (1286, v_ways_far), (1283, v_ways_ready), (1285, v_ways_size), (1284, v_ways_whole)] [] [(16, v_list), (13, v_made_near), (11, v_now_near), (22, v_ways_layers), (23, v_ways_reached), (21, v_ways_steps)] []) H locs → k95 x1 x2 x3 v_likeness_ready v_made_size v_now_size v_pairs_ready v_search_reach v_ways_far v_ways_ready v_ways_size v_ways_whole v_list v_made_near v_now_near v_ways_layers v_ways_reached v_ways_steps = some (r, w_likeness_ready, w_made_size, w_now_size, w_pairs_ready, w_search_reach, w_ways_far, w_ways_ready, w_ways_size, w_ways_whole, w_list, w_made_near, w_now_near, w_ways_layers, w_ways_reached, w_ways_steps) → Wg p l e 5 114 s m args below meth c g (some (.int r)) (mkS σ [(1539, w_likeness_ready), (769, w_made_size), (641, w_now_size), (2632, w_pairs_ready), (2372, w_search_reach), (1286, w_ways_far), (1283, w_ways_ready), (1285, w_ways_size), (1284, w_ways_whole)] [] [(16, w_list), (13, w_made_near), (11, w_now_near), (22, w_ways_layers), (23, w_ways_reached), (21, w_ways_steps)] []) H locs (F0 m 95 ls [])) (x1 : Int32) (x2 : Int32) (x3 : Int32) (v_likeness_ready : Int32) (v_made_size : Int32) (v_now_size : Int32) (v_pairs_ready : Int32) (v_search_reach : Int32) (v_ways_far : Int32) (v_ways_ready : Int32) (v_ways_size : Int32) (v_ways_whole : Int32) (v_list : Nat → Int32) (v_made_near : Nat → Int32) (v_now_near : Nat → Int32) (v_ways_layers : Nat → Int32) (v_ways_reached : Nat → Int32) (v_ways_steps : Nat → Int32) (H : Heap) (locs : List Loc) (ls : Array Slot), lv_has ls 4 [(0, .ref (g.2.1 0)), (1, .int x1), (2, .int x2), (3, .int x3)] → GW g s (mkS σ [(1539, v_likeness_ready), (769, v_made_size), (641, v_now_size), (2632, v_pairs_ready), (2372, v_search_reach), (1286, v_ways_far), (1283, v_ways_ready), (1285, v_ways_size), (1284, v_ways_whole)] [] [(16, v_list), (13, v_made_near), (11, v_now_near), (22, v_ways_layers), (23, v_ways_reached), (21, v_ways_steps)] []) H locs → LN_half_n95 k86 k95 x1 x2 x3 v_likeness_ready v_made_size v_now_size v_pairs_ready v_search_reach v_ways_far v_ways_ready v_ways_size v_ways_whole v_list v_made_near v_now_near v_ways_layers v_ways_reached v_ways_steps = some (r, w_likeness_ready, w_made_size, w_now_size, w_pairs_ready, w_search_reach, w_ways_far, w_ways_ready, w_ways_size, w_ways_whole, w_list, w_made_near, w_now_near, w_ways_layers, w_ways_reached, w_ways_steps) → Wg p l e 5 114 s m args below meth c g (some (.int r)) (mkS σ [(1539, w_likeness_ready), (769, w_made_size), (641, w_now_size), (2632, w_pairs_ready), (2372, w_search_reach), (1286, w_ways_far), (1283, w_ways_ready), (1285, w_ways_size), (1284, w_ways_whole)] [] [(16, w_list), (13, w_made_near), (11, w_now_near), (22, w_ways_layers), (23, w_ways_reached), (21, w_ways_steps)] []) H locs (F0 m 95 ls []) := by
    intro k86 hk86 k95 hk95 x1 x2 x3 v_likeness_ready v_made_size v_now_size v_pairs_ready v_search_reach v_ways_far v_ways_ready v_ways_size v_ways_whole v_list v_made_near v_now_near v_ways_layers v_ways_reached v_ways_steps H locs ls hl hG h
    unfold LN_half_n95 at h
    refine lv_iload_n hx hb dX8_half_95 rfl (lv_at hl 3 rfl) ?_
    refine lv_iload_n hx hb dX8_half_96 rfl (lv_at hl 1 rfl) ?_
    refine lv_icmp_ge (tgt := 138) hx hb dX8_half_97 (by decide) (fun c1 => ?_) (fun c1 => ?_)
    · have h := ite_t c1 h
      exact n138 k86 hk86 x1 x2 v_likeness_ready v_made_size v_now_size v_pairs_ready v_search_reach v_ways_far v_ways_ready v_ways_size v_ways_whole v_list v_made_near v_now_near v_ways_layers v_ways_reached v_ways_steps _ _ _ (lv_sub hl [0, 1, 2] rfl) hG h
    · have h := ite_f c1 h
      refine lv_aload_n hx hb dX8_half_100 rfl (lv_at hl 0 rfl) ?_
      refine gx_get (v := .ref (g.2.1 20)) (C := RX8) (T := TX8) (N := 13) hx hb hts mc_X8 hown hK hG (ga_0 g _) rfl 7 (by decide) hw0 rfl rfl dX8_half_101 ?_
      refine lv_aload_n hx hb dX8_half_104 rfl (lv_at hl 0 rfl) ?_
      refine gx_get (v := .ref (g.2.1 16)) (C := RX8) (T := TX8) (N := 13) hx hb hts mc_X8 hown hK hG (ga_0 g _) rfl 4 (by decide) hw1 rfl rfl dX8_half_105 ?_
      refine lv_iload_n hx hb dX8_half_108 rfl (lv_at hl 2 rfl) ?_
      obtain ⟨hg2, h⟩ := gd_some h
      refine gx_iald (f := v_list) hx hb hK hG (ga_16 g _) hg2 dX8_half_109 ?_
      refine lv_aload_n hx hb dX8_half_110 rfl (lv_at hl 0 rfl) ?_
      refine gx_get (v := .ref (g.2.1 16)) (C := RX8) (T := TX8) (N := 13) hx hb hts mc_X8 hown hK hG (ga_0 g _) rfl 4 (by decide) hw1 rfl rfl dX8_half_111 ?_
      refine lv_iload_n hx hb dX8_half_114 rfl (lv_at hl 3 rfl) ?_
      obtain ⟨hg3, h⟩ := gd_some h
      refine gx_iald (f := v_list) hx hb hK hG (ga_16 g _) hg3 dX8_half_115 ?_
      obtain ⟨z4, hc5, h⟩ := bnd_some h
      refine gx_cV (σ' := (mkS σ [(1539, v_likeness_ready), (769, v_made_size), (641, v_now_size), (2632, v_pairs_ready), (2372, v_search_reach), (1286, v_ways_far), (1283, v_ways_ready), (1285, v_ways_size), (1284, v_ways_whole)] [] [(16, v_list), (13, v_made_near), (11, v_now_near), (22, v_ways_layers), (23, v_ways_reached), (21, v_ways_steps)] [])) (r := (some (.int z4))) (rest := []) (As := [.int (v_list (x2.toNatClampNeg)), .int (v_list (x3.toNatClampNeg))]) hS9 (c_Wy_between l g (mkS σ [(1539, v_likeness_ready), (769, v_made_size), (641, v_now_size), (2632, v_pairs_ready), (2372, v_search_reach), (1286, v_ways_far), (1283, v_ways_ready), (1285, v_ways_size), (1284, v_ways_whole)] [] [(16, v_list), (13, v_made_near), (11, v_now_near), (22, v_ways_layers), (23, v_ways_reached), (21, v_ways_steps)] []) (v_list (x2.toNatClampNeg)) (v_list (x3.toNatClampNeg)) z4 hc5) rfl (cwV 2 hts (gz_V mw_3_33 mw_3_34 mw_3_35 mw_1_5 mw_3_36) rfl rfl rfl hdV_X7_between ⟨Nat.le_of_ble_eq_true rfl, Nat.le_of_ble_eq_true rfl⟩) hK hG (ga_20 g _) rfl rfl rfl hl.1 rfl (Nat.le_of_ble_eq_true rfl) dX8_half_116 (fun H locs hG => ?_)
      refine W.eq (g2 := F0 m 119 ls [.int z4]) rfl ?_
      refine lv_iconst (v := (2 : Int32)) hx hb dX8_half_119 (by decide) ?_
      refine lv_icmp_ne (tgt := 132) hx hb dX8_half_120 (by decide) (fun c6 => ?_) (fun c6 => ?_)
      · have h := ite_f c6 h
        exact n132 k95 hk95 x1 x2 x3 v_likeness_ready v_made_size v_now_size v_pairs_ready v_search_reach v_ways_far v_ways_ready v_ways_size v_ways_whole v_list v_made_near v_now_near v_ways_layers v_ways_reached v_ways_steps _ _ _ (lv_sub hl [0, 1, 2, 3] rfl) hG h
      · have h := ite_t c6 h
        refine lv_aload_n hx hb dX8_half_123 rfl (lv_at hl 0 rfl) ?_
        refine gx_get (v := .ref (g.2.1 12)) (C := RX8) (T := TX8) (N := 13) hx hb hts mc_X8 hown hK hG (ga_0 g _) rfl 2 (by decide) hw2 rfl rfl dX8_half_124 ?_
        refine lv_iload_n hx hb dX8_half_127 rfl (lv_at hl 2 rfl) ?_
        refine lv_iload_n hx hb dX8_half_128 rfl (lv_at hl 3 rfl) ?_
        obtain ⟨z7, hc8, h⟩ := bnd_some h
        refine gx_cV (σ' := (mkS σ [(1539, v_likeness_ready), (769, v_made_size), (641, v_now_size), (2632, v_pairs_ready), (2372, v_search_reach), (1286, v_ways_far), (1283, v_ways_ready), (1285, v_ways_size), (1284, v_ways_whole)] [] [(16, v_list), (13, z7), (11, v_now_near), (22, v_ways_layers), (23, v_ways_reached), (21, v_ways_steps)] [])) (r := none) (rest := []) (As := [.int x2, .int x3]) hS9 (c_Net_join_12 l g (mkS σ [(1539, v_likeness_ready), (769, v_made_size), (641, v_now_size), (2632, v_pairs_ready), (2372, v_search_reach), (1286, v_ways_far), (1283, v_ways_ready), (1285, v_ways_size), (1284, v_ways_whole)] [] [(16, v_list), (13, v_made_near), (11, v_now_near), (22, v_ways_layers), (23, v_ways_reached), (21, v_ways_steps)] []) x2 x3 z7 hc8) (mk_mk rfl rfl rfl rfl) (cwV 2 hts (gz_V mw_2_137 mw_2_138 mw_2_139 mw_1_3 mw_2_140) rfl rfl rfl hdV_X2_join ⟨Nat.le_of_ble_eq_true rfl, Nat.le_of_ble_eq_true rfl⟩) hK hG (ga_12 g _) rfl rfl rfl hl.1 rfl (Nat.le_of_ble_eq_true rfl) dX8_half_129 (fun H locs hG => ?_)
        refine W.eq (g2 := F0 m 132 ls []) rfl ?_
        exact n132 k95 hk95 x1 x2 x3 v_likeness_ready v_made_size v_now_size v_pairs_ready v_search_reach v_ways_far v_ways_ready v_ways_size v_ways_whole v_list z7 v_now_near v_ways_layers v_ways_reached v_ways_steps _ _ _ (lv_sub hl [0, 1, 2, 3] rfl) hG h
  have l95 : ∀ (k86 : Int32 → Int32 → Int32 → Int32 → Int32 → Int32 → Int32 → Int32 → Int32 → Int32 → Int32 → (Nat → Int32) → (Nat → Int32) → (Nat → Int32) → (Nat → Int32) → (Nat → Int32) → (Nat → Int32) → Option (Int32 × Int32 × Int32 × Int32 × Int32 × Int32 × Int32 × Int32 × Int32 × Int32 × (Nat → Int32) × (Nat → Int32) × (Nat → Int32) × (Nat → Int32) × (Nat → Int32) × (Nat → Int32))) (hk86 : ∀ (x1 : Int32) (x2 : Int32) (v_likeness_ready : Int32) (v_made_size : Int32) (v_now_size : Int32) (v_pairs_ready : Int32) (v_search_reach : Int32) (v_ways_far : Int32) (v_ways_ready : Int32) (v_ways_size : Int32) (v_ways_whole : Int32) (v_list : Nat → Int32) (v_made_near : Nat → Int32) (v_now_near : Nat → Int32) (v_ways_layers : Nat → Int32) (v_ways_reached : Nat → Int32) (v_ways_steps : Nat → Int32) (H : Heap) (locs : List Loc) (ls : Array Slot), lv_has ls 4 [(0, .ref (g.2.1 0)), (1, .int x1), (2, .int x2)] → GW g s (mkS σ [(1539, v_likeness_ready), (769, v_made_size), (641, v_now_size), (2632, v_pairs_ready), (2372, v_search_reach), (1286, v_ways_far), (1283, v_ways_ready), (1285, v_ways_size), (1284, v_ways_whole)] [] [(16, v_list), (13, v_made_near), (11, v_now_near), (22, v_ways_layers), (23, v_ways_reached), (21, v_ways_steps)] []) H locs → k86 x1 x2 v_likeness_ready v_made_size v_now_size v_pairs_ready v_search_reach v_ways_far v_ways_ready v_ways_size v_ways_whole v_list v_made_near v_now_near v_ways_layers v_ways_reached v_ways_steps = some (r, w_likeness_ready, w_made_size, w_now_size, w_pairs_ready, w_search_reach, w_ways_far, w_ways_ready, w_ways_size, w_ways_whole, w_list, w_made_near, w_now_near, w_ways_layers, w_ways_reached, w_ways_steps) → Wg p l e 5 114 s m args below meth c g (some (.int r)) (mkS σ [(1539, w_likeness_ready), (769, w_made_size), (641, w_now_size), (2632, w_pairs_ready), (2372, w_search_reach), (1286, w_ways_far), (1283, w_ways_ready), (1285, w_ways_size), (1284, w_ways_whole)] [] [(16, w_list), (13, w_made_near), (11, w_now_near), (22, w_ways_layers), (23, w_ways_reached), (21, w_ways_steps)] []) H locs (F0 m 86 ls [])) (F : Nat) (x1 : Int32) (x2 : Int32) (x3 : Int32) (v_likeness_ready : Int32) (v_made_size : Int32) (v_now_size : Int32) (v_pairs_ready : Int32) (v_search_reach : Int32) (v_ways_far : Int32) (v_ways_ready : Int32) (v_ways_size : Int32) (v_ways_whole : Int32) (v_list : Nat → Int32) (v_made_near : Nat → Int32) (v_now_near : Nat → Int32) (v_ways_layers : Nat → Int32) (v_ways_reached : Nat → Int32) (v_ways_steps : Nat → Int32) (H : Heap) (locs : List Loc) (ls : Array Slot), lv_has ls 4 [(0, .ref (g.2.1 0)), (1, .int x1), (2, .int x2), (3, .int x3)] → GW g s (mkS σ [(1539, v_likeness_ready), (769, v_made_size), (641, v_now_size), (2632, v_pairs_ready), (2372, v_search_reach), (1286, v_ways_far), (1283, v_ways_ready), (1285, v_ways_size), (1284, v_ways_whole)] [] [(16, v_list), (13, v_made_near), (11, v_now_near), (22, v_ways_layers), (23, v_ways_reached), (21, v_ways_steps)] []) H locs → LN_half_l95 k86 F x1 x2 x3 v_likeness_ready v_made_size v_now_size v_pairs_ready v_search_reach v_ways_far v_ways_ready v_ways_size v_ways_whole v_list v_made_near v_now_near v_ways_layers v_ways_reached v_ways_steps = some (r, w_likeness_ready, w_made_size, w_now_size, w_pairs_ready, w_search_reach, w_ways_far, w_ways_ready, w_ways_size, w_ways_whole, w_list, w_made_near, w_now_near, w_ways_layers, w_ways_reached, w_ways_steps) → Wg p l e 5 114 s m args below meth c g (some (.int r)) (mkS σ [(1539, w_likeness_ready), (769, w_made_size), (641, w_now_size), (2632, w_pairs_ready), (2372, w_search_reach), (1286, w_ways_far), (1283, w_ways_ready), (1285, w_ways_size), (1284, w_ways_whole)] [] [(16, w_list), (13, w_made_near), (11, w_now_near), (22, w_ways_layers), (23, w_ways_reached), (21, w_ways_steps)] []) H locs (F0 m 95 ls []) := by
    intro k86 hk86 F
    induction F with
    | zero => intro x1 x2 x3 v_likeness_ready v_made_size v_now_size v_pairs_ready v_search_reach v_ways_far v_ways_ready v_ways_size v_ways_whole v_list v_made_near v_now_near v_ways_layers v_ways_reached v_ways_steps H locs ls hl hG h; exact no_some h
    | succ F ih => intro x1 x2 x3 v_likeness_ready v_made_size v_now_size v_pairs_ready v_search_reach v_ways_far v_ways_ready v_ways_size v_ways_whole v_list v_made_near v_now_near v_ways_layers v_ways_reached v_ways_steps H locs ls hl hG h; exact n95 k86 hk86 (fun x1 x2 x3 v_likeness_ready v_made_size v_now_size v_pairs_ready v_search_reach v_ways_far v_ways_ready v_ways_size v_ways_whole v_list v_made_near v_now_near v_ways_layers v_ways_reached v_ways_steps => LN_half_l95 k86 F x1 x2 x3 v_likeness_ready v_made_size v_now_size v_pairs_ready v_search_reach v_ways_far v_ways_ready v_ways_size v_ways_whole v_list v_made_near v_now_near v_ways_layers v_ways_reached v_ways_steps) ih x1 x2 x3 v_likeness_ready v_made_size v_now_size v_pairs_ready v_search_reach v_ways_far v_ways_ready v_ways_size v_ways_whole v_list v_made_near v_now_near v_ways_layers v_ways_reached v_ways_steps H locs ls hl hG h
  have n144 : ∀ (v_likeness_ready : Int32) (v_made_size : Int32) (v_now_size : Int32) (v_pairs_ready : Int32) (v_search_reach : Int32) (v_ways_far : Int32) (v_ways_ready : Int32) (v_ways_size : Int32) (v_ways_whole : Int32) (v_list : Nat → Int32) (v_made_near : Nat → Int32) (v_now_near : Nat → Int32) (v_ways_layers : Nat → Int32) (v_ways_reached : Nat → Int32) (v_ways_steps : Nat → Int32) (H : Heap) (locs : List Loc) (ls : Array Slot), lv_has ls 4 [(0, .ref (g.2.1 0))] → GW g s (mkS σ [(1539, v_likeness_ready), (769, v_made_size), (641, v_now_size), (2632, v_pairs_ready), (2372, v_search_reach), (1286, v_ways_far), (1283, v_ways_ready), (1285, v_ways_size), (1284, v_ways_whole)] [] [(16, v_list), (13, v_made_near), (11, v_now_near), (22, v_ways_layers), (23, v_ways_reached), (21, v_ways_steps)] []) H locs → LN_half_n144 v_likeness_ready v_made_size v_now_size v_pairs_ready v_search_reach v_ways_far v_ways_ready v_ways_size v_ways_whole v_list v_made_near v_now_near v_ways_layers v_ways_reached v_ways_steps = some (r, w_likeness_ready, w_made_size, w_now_size, w_pairs_ready, w_search_reach, w_ways_far, w_ways_ready, w_ways_size, w_ways_whole, w_list, w_made_near, w_now_near, w_ways_layers, w_ways_reached, w_ways_steps) → Wg p l e 5 114 s m args below meth c g (some (.int r)) (mkS σ [(1539, w_likeness_ready), (769, w_made_size), (641, w_now_size), (2632, w_pairs_ready), (2372, w_search_reach), (1286, w_ways_far), (1283, w_ways_ready), (1285, w_ways_size), (1284, w_ways_whole)] [] [(16, w_list), (13, w_made_near), (11, w_now_near), (22, w_ways_layers), (23, w_ways_reached), (21, w_ways_steps)] []) H locs (F0 m 144 ls []) := by
    intro v_likeness_ready v_made_size v_now_size v_pairs_ready v_search_reach v_ways_far v_ways_ready v_ways_size v_ways_whole v_list v_made_near v_now_near v_ways_layers v_ways_reached v_ways_steps H locs ls hl hG h
    unfold LN_half_n144 at h
    refine lv_aload_n hx hb dX8_half_144 rfl (lv_at hl 0 rfl) ?_
    obtain ⟨z9, hc10, h⟩ := bnd_some h
    refine gx_cV (σ' := (mkS σ [(1539, z9.2.1), (769, v_made_size), (641, z9.2.2.1), (2632, z9.2.2.2.1), (2372, z9.2.2.2.2.1), (1286, v_ways_far), (1283, z9.2.2.2.2.2.1), (1285, v_ways_size), (1284, v_ways_whole)] [] [(16, v_list), (13, v_made_near), (11, z9.2.2.2.2.2.2), (22, v_ways_layers), (23, v_ways_reached), (21, v_ways_steps)] [])) (r := (some (.int z9.1))) (rest := []) (As := []) hS9 (c_LN_adopt l g (mkS σ [(1539, v_likeness_ready), (769, v_made_size), (641, v_now_size), (2632, v_pairs_ready), (2372, v_search_reach), (1286, v_ways_far), (1283, v_ways_ready), (1285, v_ways_size), (1284, v_ways_whole)] [] [(16, v_list), (13, v_made_near), (11, v_now_near), (22, v_ways_layers), (23, v_ways_reached), (21, v_ways_steps)] []) z9.1 z9.2.1 z9.2.2.1 z9.2.2.2.1 z9.2.2.2.2.1 z9.2.2.2.2.2.1 z9.2.2.2.2.2.2 hc10) (mk_mk rfl rfl rfl rfl) (cwV 0 hts (gz_V mw_2_229 mw_2_231 ms_1_5 mw_1_1 mw_2_232) rfl rfl rfl hdV_X8_adopt ⟨Nat.le_of_ble_eq_true rfl, Nat.le_of_ble_eq_true rfl⟩) hK hG (ga_0 g _) rfl rfl rfl hl.1 rfl (Nat.le_of_ble_eq_true rfl) dX8_half_145 (fun H locs hG => ?_)
    refine W.eq (g2 := F0 m 148 ls [.int z9.1]) rfl ?_
    cases h
    exact gx_iret hx hb hr hlocks hG dX8_half_148
  have n86 : ∀ (k86 : Int32 → Int32 → Int32 → Int32 → Int32 → Int32 → Int32 → Int32 → Int32 → Int32 → Int32 → (Nat → Int32) → (Nat → Int32) → (Nat → Int32) → (Nat → Int32) → (Nat → Int32) → (Nat → Int32) → Option (Int32 × Int32 × Int32 × Int32 × Int32 × Int32 × Int32 × Int32 × Int32 × Int32 × (Nat → Int32) × (Nat → Int32) × (Nat → Int32) × (Nat → Int32) × (Nat → Int32) × (Nat → Int32))) (hk86 : ∀ (x1 : Int32) (x2 : Int32) (v_likeness_ready : Int32) (v_made_size : Int32) (v_now_size : Int32) (v_pairs_ready : Int32) (v_search_reach : Int32) (v_ways_far : Int32) (v_ways_ready : Int32) (v_ways_size : Int32) (v_ways_whole : Int32) (v_list : Nat → Int32) (v_made_near : Nat → Int32) (v_now_near : Nat → Int32) (v_ways_layers : Nat → Int32) (v_ways_reached : Nat → Int32) (v_ways_steps : Nat → Int32) (H : Heap) (locs : List Loc) (ls : Array Slot), lv_has ls 4 [(0, .ref (g.2.1 0)), (1, .int x1), (2, .int x2)] → GW g s (mkS σ [(1539, v_likeness_ready), (769, v_made_size), (641, v_now_size), (2632, v_pairs_ready), (2372, v_search_reach), (1286, v_ways_far), (1283, v_ways_ready), (1285, v_ways_size), (1284, v_ways_whole)] [] [(16, v_list), (13, v_made_near), (11, v_now_near), (22, v_ways_layers), (23, v_ways_reached), (21, v_ways_steps)] []) H locs → k86 x1 x2 v_likeness_ready v_made_size v_now_size v_pairs_ready v_search_reach v_ways_far v_ways_ready v_ways_size v_ways_whole v_list v_made_near v_now_near v_ways_layers v_ways_reached v_ways_steps = some (r, w_likeness_ready, w_made_size, w_now_size, w_pairs_ready, w_search_reach, w_ways_far, w_ways_ready, w_ways_size, w_ways_whole, w_list, w_made_near, w_now_near, w_ways_layers, w_ways_reached, w_ways_steps) → Wg p l e 5 114 s m args below meth c g (some (.int r)) (mkS σ [(1539, w_likeness_ready), (769, w_made_size), (641, w_now_size), (2632, w_pairs_ready), (2372, w_search_reach), (1286, w_ways_far), (1283, w_ways_ready), (1285, w_ways_size), (1284, w_ways_whole)] [] [(16, w_list), (13, w_made_near), (11, w_now_near), (22, w_ways_layers), (23, w_ways_reached), (21, w_ways_steps)] []) H locs (F0 m 86 ls [])) (x1 : Int32) (x2 : Int32) (v_likeness_ready : Int32) (v_made_size : Int32) (v_now_size : Int32) (v_pairs_ready : Int32) (v_search_reach : Int32) (v_ways_far : Int32) (v_ways_ready : Int32) (v_ways_size : Int32) (v_ways_whole : Int32) (v_list : Nat → Int32) (v_made_near : Nat → Int32) (v_now_near : Nat → Int32) (v_ways_layers : Nat → Int32) (v_ways_reached : Nat → Int32) (v_ways_steps : Nat → Int32) (H : Heap) (locs : List Loc) (ls : Array Slot), lv_has ls 4 [(0, .ref (g.2.1 0)), (1, .int x1), (2, .int x2)] → GW g s (mkS σ [(1539, v_likeness_ready), (769, v_made_size), (641, v_now_size), (2632, v_pairs_ready), (2372, v_search_reach), (1286, v_ways_far), (1283, v_ways_ready), (1285, v_ways_size), (1284, v_ways_whole)] [] [(16, v_list), (13, v_made_near), (11, v_now_near), (22, v_ways_layers), (23, v_ways_reached), (21, v_ways_steps)] []) H locs → LN_half_n86 k86 x1 x2 v_likeness_ready v_made_size v_now_size v_pairs_ready v_search_reach v_ways_far v_ways_ready v_ways_size v_ways_whole v_list v_made_near v_now_near v_ways_layers v_ways_reached v_ways_steps = some (r, w_likeness_ready, w_made_size, w_now_size, w_pairs_ready, w_search_reach, w_ways_far, w_ways_ready, w_ways_size, w_ways_whole, w_list, w_made_near, w_now_near, w_ways_layers, w_ways_reached, w_ways_steps) → Wg p l e 5 114 s m args below meth c g (some (.int r)) (mkS σ [(1539, w_likeness_ready), (769, w_made_size), (641, w_now_size), (2632, w_pairs_ready), (2372, w_search_reach), (1286, w_ways_far), (1283, w_ways_ready), (1285, w_ways_size), (1284, w_ways_whole)] [] [(16, w_list), (13, w_made_near), (11, w_now_near), (22, w_ways_layers), (23, w_ways_reached), (21, w_ways_steps)] []) H locs (F0 m 86 ls []) := by
    intro k86 hk86 x1 x2 v_likeness_ready v_made_size v_now_size v_pairs_ready v_search_reach v_ways_far v_ways_ready v_ways_size v_ways_whole v_list v_made_near v_now_near v_ways_layers v_ways_reached v_ways_steps H locs ls hl hG h
    unfold LN_half_n86 at h
    refine lv_iload_n hx hb dX8_half_86 rfl (lv_at hl 2 rfl) ?_
    refine lv_iload_n hx hb dX8_half_87 rfl (lv_at hl 1 rfl) ?_
    refine lv_icmp_ge (tgt := 144) hx hb dX8_half_88 (by decide) (fun c11 => ?_) (fun c11 => ?_)
    · have h := ite_t c11 h
      exact n144 v_likeness_ready v_made_size v_now_size v_pairs_ready v_search_reach v_ways_far v_ways_ready v_ways_size v_ways_whole v_list v_made_near v_now_near v_ways_layers v_ways_reached v_ways_steps _ _ _ (lv_sub hl [0] rfl) hG h
    · have h := ite_f c11 h
      refine lv_iload_n hx hb dX8_half_91 rfl (lv_at hl 2 rfl) ?_
      refine lv_iconst (v := (1 : Int32)) hx hb dX8_half_92 (by decide) ?_
      refine lv_iadd hx hb dX8_half_93 ?_
      refine lv_istore_n (lv' := [(3, .int (x2 + (1 : Int32))), (0, .ref (g.2.1 0)), (1, .int x1), (2, .int x2)]) hx hb dX8_half_94 rfl hl (Nat.le_of_ble_eq_true rfl) rfl (fun ls hl => ?_)
      exact l95 k86 hk86 FUEL x1 x2 (x2 + (1 : Int32)) v_likeness_ready v_made_size v_now_size v_pairs_ready v_search_reach v_ways_far v_ways_ready v_ways_size v_ways_whole v_list v_made_near v_now_near v_ways_layers v_ways_reached v_ways_steps _ _ _ (lv_sub hl [1, 2, 3, 0] rfl) hG h
  have l86 : ∀  (F : Nat) (x1 : Int32) (x2 : Int32) (v_likeness_ready : Int32) (v_made_size : Int32) (v_now_size : Int32) (v_pairs_ready : Int32) (v_search_reach : Int32) (v_ways_far : Int32) (v_ways_ready : Int32) (v_ways_size : Int32) (v_ways_whole : Int32) (v_list : Nat → Int32) (v_made_near : Nat → Int32) (v_now_near : Nat → Int32) (v_ways_layers : Nat → Int32) (v_ways_reached : Nat → Int32) (v_ways_steps : Nat → Int32) (H : Heap) (locs : List Loc) (ls : Array Slot), lv_has ls 4 [(0, .ref (g.2.1 0)), (1, .int x1), (2, .int x2)] → GW g s (mkS σ [(1539, v_likeness_ready), (769, v_made_size), (641, v_now_size), (2632, v_pairs_ready), (2372, v_search_reach), (1286, v_ways_far), (1283, v_ways_ready), (1285, v_ways_size), (1284, v_ways_whole)] [] [(16, v_list), (13, v_made_near), (11, v_now_near), (22, v_ways_layers), (23, v_ways_reached), (21, v_ways_steps)] []) H locs → LN_half_l86 F x1 x2 v_likeness_ready v_made_size v_now_size v_pairs_ready v_search_reach v_ways_far v_ways_ready v_ways_size v_ways_whole v_list v_made_near v_now_near v_ways_layers v_ways_reached v_ways_steps = some (r, w_likeness_ready, w_made_size, w_now_size, w_pairs_ready, w_search_reach, w_ways_far, w_ways_ready, w_ways_size, w_ways_whole, w_list, w_made_near, w_now_near, w_ways_layers, w_ways_reached, w_ways_steps) → Wg p l e 5 114 s m args below meth c g (some (.int r)) (mkS σ [(1539, w_likeness_ready), (769, w_made_size), (641, w_now_size), (2632, w_pairs_ready), (2372, w_search_reach), (1286, w_ways_far), (1283, w_ways_ready), (1285, w_ways_size), (1284, w_ways_whole)] [] [(16, w_list), (13, w_made_near), (11, w_now_near), (22, w_ways_layers), (23, w_ways_reached), (21, w_ways_steps)] []) H locs (F0 m 86 ls []) := by
    intro F
    induction F with
    | zero => intro x1 x2 v_likeness_ready v_made_size v_now_size v_pairs_ready v_search_reach v_ways_far v_ways_ready v_ways_size v_ways_whole v_list v_made_near v_now_near v_ways_layers v_ways_reached v_ways_steps H locs ls hl hG h; exact no_some h
    | succ F ih => intro x1 x2 v_likeness_ready v_made_size v_now_size v_pairs_ready v_search_reach v_ways_far v_ways_ready v_ways_size v_ways_whole v_list v_made_near v_now_near v_ways_layers v_ways_reached v_ways_steps H locs ls hl hG h; exact n86 (fun x1 x2 v_likeness_ready v_made_size v_now_size v_pairs_ready v_search_reach v_ways_far v_ways_ready v_ways_size v_ways_whole v_list v_made_near v_now_near v_ways_layers v_ways_reached v_ways_steps => LN_half_l86 F x1 x2 v_likeness_ready v_made_size v_now_size v_pairs_ready v_search_reach v_ways_far v_ways_ready v_ways_size v_ways_whole v_list v_made_near v_now_near v_ways_layers v_ways_reached v_ways_steps) ih x1 x2 v_likeness_ready v_made_size v_now_size v_pairs_ready v_search_reach v_ways_far v_ways_ready v_ways_size v_ways_whole v_list v_made_near v_now_near v_ways_layers v_ways_reached v_ways_steps H locs ls hl hG h
  have n76 : ∀ (x1 : Int32) (v_likeness_ready : Int32) (v_made_size : Int32) (v_now_size : Int32) (v_pairs_ready : Int32) (v_search_reach : Int32) (v_ways_far : Int32) (v_ways_ready : Int32) (v_ways_size : Int32) (v_ways_whole : Int32) (v_list : Nat → Int32) (v_made_near : Nat → Int32) (v_now_near : Nat → Int32) (v_ways_layers : Nat → Int32) (v_ways_reached : Nat → Int32) (v_ways_steps : Nat → Int32) (H : Heap) (locs : List Loc) (ls : Array Slot), lv_has ls 4 [(0, .ref (g.2.1 0)), (1, .int x1)] → GW g s (mkS σ [(1539, v_likeness_ready), (769, v_made_size), (641, v_now_size), (2632, v_pairs_ready), (2372, v_search_reach), (1286, v_ways_far), (1283, v_ways_ready), (1285, v_ways_size), (1284, v_ways_whole)] [] [(16, v_list), (13, v_made_near), (11, v_now_near), (22, v_ways_layers), (23, v_ways_reached), (21, v_ways_steps)] []) H locs → LN_half_n76 x1 v_likeness_ready v_made_size v_now_size v_pairs_ready v_search_reach v_ways_far v_ways_ready v_ways_size v_ways_whole v_list v_made_near v_now_near v_ways_layers v_ways_reached v_ways_steps = some (r, w_likeness_ready, w_made_size, w_now_size, w_pairs_ready, w_search_reach, w_ways_far, w_ways_ready, w_ways_size, w_ways_whole, w_list, w_made_near, w_now_near, w_ways_layers, w_ways_reached, w_ways_steps) → Wg p l e 5 114 s m args below meth c g (some (.int r)) (mkS σ [(1539, w_likeness_ready), (769, w_made_size), (641, w_now_size), (2632, w_pairs_ready), (2372, w_search_reach), (1286, w_ways_far), (1283, w_ways_ready), (1285, w_ways_size), (1284, w_ways_whole)] [] [(16, w_list), (13, w_made_near), (11, w_now_near), (22, w_ways_layers), (23, w_ways_reached), (21, w_ways_steps)] []) H locs (F0 m 76 ls []) := by
    intro x1 v_likeness_ready v_made_size v_now_size v_pairs_ready v_search_reach v_ways_far v_ways_ready v_ways_size v_ways_whole v_list v_made_near v_now_near v_ways_layers v_ways_reached v_ways_steps H locs ls hl hG h
    unfold LN_half_n76 at h
    refine lv_aload_n hx hb dX8_half_76 rfl (lv_at hl 0 rfl) ?_
    refine gx_get (v := .ref (g.2.1 12)) (C := RX8) (T := TX8) (N := 13) hx hb hts mc_X8 hown hK hG (ga_0 g _) rfl 2 (by decide) hw2 rfl rfl dX8_half_77 ?_
    refine lv_iload_n hx hb dX8_half_80 rfl (lv_at hl 1 rfl) ?_
    obtain ⟨z12, hc13, h⟩ := bnd_some h
    refine gx_cV (σ' := (mkS σ [(1539, v_likeness_ready), (769, z12.1), (641, v_now_size), (2632, v_pairs_ready), (2372, v_search_reach), (1286, v_ways_far), (1283, v_ways_ready), (1285, v_ways_size), (1284, v_ways_whole)] [] [(16, v_list), (13, z12.2), (11, v_now_near), (22, v_ways_layers), (23, v_ways_reached), (21, v_ways_steps)] [])) (r := none) (rest := []) (As := [.int x1]) hS9 (c_Net_empty_12 l g (mkS σ [(1539, v_likeness_ready), (769, v_made_size), (641, v_now_size), (2632, v_pairs_ready), (2372, v_search_reach), (1286, v_ways_far), (1283, v_ways_ready), (1285, v_ways_size), (1284, v_ways_whole)] [] [(16, v_list), (13, v_made_near), (11, v_now_near), (22, v_ways_layers), (23, v_ways_reached), (21, v_ways_steps)] []) x1 z12.1 z12.2 hc13) (mk_mk rfl rfl rfl rfl) (cwV 1 hts (gz_V mw_2_109 mw_2_110 mw_2_111 mw_1_3 mw_2_112) rfl rfl rfl hdV_X2_empty ⟨Nat.le_of_ble_eq_true rfl, Nat.le_of_ble_eq_true rfl⟩) hK hG (ga_12 g _) rfl rfl rfl hl.1 rfl (Nat.le_of_ble_eq_true rfl) dX8_half_81 (fun H locs hG => ?_)
    refine W.eq (g2 := F0 m 84 ls []) rfl ?_
    refine lv_iconst (v := (0 : Int32)) hx hb dX8_half_84 (by decide) ?_
    refine lv_istore_n (lv' := [(2, .int (0 : Int32)), (0, .ref (g.2.1 0)), (1, .int x1)]) hx hb dX8_half_85 rfl hl (Nat.le_of_ble_eq_true rfl) rfl (fun ls hl => ?_)
    exact l86 FUEL x1 (0 : Int32) v_likeness_ready z12.1 v_now_size v_pairs_ready v_search_reach v_ways_far v_ways_ready v_ways_size v_ways_whole v_list z12.2 v_now_near v_ways_layers v_ways_reached v_ways_steps _ _ _ (lv_sub hl [1, 2, 0] rfl) hG h
  have n35 : ∀ (k35 : Int32 → Int32 → Int32 → Int32 → Int32 → Int32 → Int32 → Int32 → Int32 → Int32 → Int32 → (Nat → Int32) → (Nat → Int32) → (Nat → Int32) → (Nat → Int32) → (Nat → Int32) → (Nat → Int32) → Option (Int32 × Int32 × Int32 × Int32 × Int32 × Int32 × Int32 × Int32 × Int32 × Int32 × (Nat → Int32) × (Nat → Int32) × (Nat → Int32) × (Nat → Int32) × (Nat → Int32) × (Nat → Int32))) (hk35 : ∀ (x1 : Int32) (x2 : Int32) (v_likeness_ready : Int32) (v_made_size : Int32) (v_now_size : Int32) (v_pairs_ready : Int32) (v_search_reach : Int32) (v_ways_far : Int32) (v_ways_ready : Int32) (v_ways_size : Int32) (v_ways_whole : Int32) (v_list : Nat → Int32) (v_made_near : Nat → Int32) (v_now_near : Nat → Int32) (v_ways_layers : Nat → Int32) (v_ways_reached : Nat → Int32) (v_ways_steps : Nat → Int32) (H : Heap) (locs : List Loc) (ls : Array Slot), lv_has ls 4 [(0, .ref (g.2.1 0)), (1, .int x1), (2, .int x2)] → GW g s (mkS σ [(1539, v_likeness_ready), (769, v_made_size), (641, v_now_size), (2632, v_pairs_ready), (2372, v_search_reach), (1286, v_ways_far), (1283, v_ways_ready), (1285, v_ways_size), (1284, v_ways_whole)] [] [(16, v_list), (13, v_made_near), (11, v_now_near), (22, v_ways_layers), (23, v_ways_reached), (21, v_ways_steps)] []) H locs → k35 x1 x2 v_likeness_ready v_made_size v_now_size v_pairs_ready v_search_reach v_ways_far v_ways_ready v_ways_size v_ways_whole v_list v_made_near v_now_near v_ways_layers v_ways_reached v_ways_steps = some (r, w_likeness_ready, w_made_size, w_now_size, w_pairs_ready, w_search_reach, w_ways_far, w_ways_ready, w_ways_size, w_ways_whole, w_list, w_made_near, w_now_near, w_ways_layers, w_ways_reached, w_ways_steps) → Wg p l e 5 114 s m args below meth c g (some (.int r)) (mkS σ [(1539, w_likeness_ready), (769, w_made_size), (641, w_now_size), (2632, w_pairs_ready), (2372, w_search_reach), (1286, w_ways_far), (1283, w_ways_ready), (1285, w_ways_size), (1284, w_ways_whole)] [] [(16, w_list), (13, w_made_near), (11, w_now_near), (22, w_ways_layers), (23, w_ways_reached), (21, w_ways_steps)] []) H locs (F0 m 35 ls [])) (x1 : Int32) (x2 : Int32) (v_likeness_ready : Int32) (v_made_size : Int32) (v_now_size : Int32) (v_pairs_ready : Int32) (v_search_reach : Int32) (v_ways_far : Int32) (v_ways_ready : Int32) (v_ways_size : Int32) (v_ways_whole : Int32) (v_list : Nat → Int32) (v_made_near : Nat → Int32) (v_now_near : Nat → Int32) (v_ways_layers : Nat → Int32) (v_ways_reached : Nat → Int32) (v_ways_steps : Nat → Int32) (H : Heap) (locs : List Loc) (ls : Array Slot), lv_has ls 4 [(0, .ref (g.2.1 0)), (1, .int x1), (2, .int x2)] → GW g s (mkS σ [(1539, v_likeness_ready), (769, v_made_size), (641, v_now_size), (2632, v_pairs_ready), (2372, v_search_reach), (1286, v_ways_far), (1283, v_ways_ready), (1285, v_ways_size), (1284, v_ways_whole)] [] [(16, v_list), (13, v_made_near), (11, v_now_near), (22, v_ways_layers), (23, v_ways_reached), (21, v_ways_steps)] []) H locs → LN_half_n35 k35 x1 x2 v_likeness_ready v_made_size v_now_size v_pairs_ready v_search_reach v_ways_far v_ways_ready v_ways_size v_ways_whole v_list v_made_near v_now_near v_ways_layers v_ways_reached v_ways_steps = some (r, w_likeness_ready, w_made_size, w_now_size, w_pairs_ready, w_search_reach, w_ways_far, w_ways_ready, w_ways_size, w_ways_whole, w_list, w_made_near, w_now_near, w_ways_layers, w_ways_reached, w_ways_steps) → Wg p l e 5 114 s m args below meth c g (some (.int r)) (mkS σ [(1539, w_likeness_ready), (769, w_made_size), (641, w_now_size), (2632, w_pairs_ready), (2372, w_search_reach), (1286, w_ways_far), (1283, w_ways_ready), (1285, w_ways_size), (1284, w_ways_whole)] [] [(16, w_list), (13, w_made_near), (11, w_now_near), (22, w_ways_layers), (23, w_ways_reached), (21, w_ways_steps)] []) H locs (F0 m 35 ls []) := by
    intro k35 hk35 x1 x2 v_likeness_ready v_made_size v_now_size v_pairs_ready v_search_reach v_ways_far v_ways_ready v_ways_size v_ways_whole v_list v_made_near v_now_near v_ways_layers v_ways_reached v_ways_steps H locs ls hl hG h
    unfold LN_half_n35 at h
    refine lv_iload_n hx hb dX8_half_35 rfl (lv_at hl 2 rfl) ?_
    refine lv_aload_n hx hb dX8_half_36 rfl (lv_at hl 0 rfl) ?_
    refine gx_get (v := .ref (g.2.1 10)) (C := RX8) (T := TX8) (N := 13) hx hb hts mc_X8 hown hK hG (ga_0 g _) rfl 1 (by decide) hw3 rfl rfl dX8_half_37 ?_
    refine gx_get (v := .int v_now_size) (C := RX2) (T := TX2) (N := 2) hx hb hts mc_X2 hown hK hG (ga_10 g _) rfl 1 (by decide) hw4 rfl rfl dX8_half_40 ?_
    refine lv_icmp_ge (tgt := 76) hx hb dX8_half_43 (by decide) (fun c14 => ?_) (fun c14 => ?_)
    · have h := ite_t c14 h
      exact n76 x1 v_likeness_ready v_made_size v_now_size v_pairs_ready v_search_reach v_ways_far v_ways_ready v_ways_size v_ways_whole v_list v_made_near v_now_near v_ways_layers v_ways_reached v_ways_steps _ _ _ (lv_sub hl [0, 1] rfl) hG h
    · have h := ite_f c14 h
      refine lv_aload_n hx hb dX8_half_46 rfl (lv_at hl 0 rfl) ?_
      refine gx_get (v := .ref (g.2.1 20)) (C := RX8) (T := TX8) (N := 13) hx hb hts mc_X8 hown hK hG (ga_0 g _) rfl 7 (by decide) hw0 rfl rfl dX8_half_47 ?_
      refine lv_iconst (v := (0 : Int32)) hx hb dX8_half_50 (by decide) ?_
      refine lv_iload_n hx hb dX8_half_51 rfl (lv_at hl 2 rfl) ?_
      obtain ⟨z15, hc16, h⟩ := bnd_some h
      refine gx_cV (σ' := (mkS σ [(1539, v_likeness_ready), (769, v_made_size), (641, v_now_size), (2632, v_pairs_ready), (2372, v_search_reach), (1286, v_ways_far), (1283, v_ways_ready), (1285, v_ways_size), (1284, v_ways_whole)] [] [(16, v_list), (13, v_made_near), (11, v_now_near), (22, v_ways_layers), (23, v_ways_reached), (21, v_ways_steps)] [])) (r := (some (.int z15))) (rest := []) (As := [.int (0 : Int32), .int x2]) hS9 (c_Wy_between l g (mkS σ [(1539, v_likeness_ready), (769, v_made_size), (641, v_now_size), (2632, v_pairs_ready), (2372, v_search_reach), (1286, v_ways_far), (1283, v_ways_ready), (1285, v_ways_size), (1284, v_ways_whole)] [] [(16, v_list), (13, v_made_near), (11, v_now_near), (22, v_ways_layers), (23, v_ways_reached), (21, v_ways_steps)] []) (0 : Int32) x2 z15 hc16) rfl (cwV 2 hts (gz_V mw_3_33 mw_3_34 mw_3_35 mw_1_5 mw_3_36) rfl rfl rfl hdV_X7_between ⟨Nat.le_of_ble_eq_true rfl, Nat.le_of_ble_eq_true rfl⟩) hK hG (ga_20 g _) rfl rfl rfl hl.1 rfl (Nat.le_of_ble_eq_true rfl) dX8_half_52 (fun H locs hG => ?_)
      refine W.eq (g2 := F0 m 55 ls [.int z15]) rfl ?_
      refine lv_iconst (v := (2 : Int32)) hx hb dX8_half_55 (by decide) ?_
      refine lv_irem hx hb dX8_half_56 (by decide) ?_
      refine lv_if_ne (tgt := 70) hx hb dX8_half_57 (by decide) (fun c17 => ?_) (fun c17 => ?_)
      · have h := ite_f c17 h
        exact n70 k35 hk35 x1 x2 v_likeness_ready v_made_size v_now_size v_pairs_ready v_search_reach v_ways_far v_ways_ready v_ways_size v_ways_whole v_list v_made_near v_now_near v_ways_layers v_ways_reached v_ways_steps _ _ _ (lv_sub hl [0, 1, 2] rfl) hG h
      · have h := ite_t c17 h
        refine lv_aload_n hx hb dX8_half_60 rfl (lv_at hl 0 rfl) ?_
        refine gx_get (v := .ref (g.2.1 16)) (C := RX8) (T := TX8) (N := 13) hx hb hts mc_X8 hown hK hG (ga_0 g _) rfl 4 (by decide) hw1 rfl rfl dX8_half_61 ?_
        refine lv_iload_n hx hb dX8_half_64 rfl (lv_at hl 1 rfl) ?_
        refine lv_iload_n hx hb dX8_half_65 rfl (lv_at hl 2 rfl) ?_
        obtain ⟨hg18, h⟩ := gd_some h
        refine gx_iast (σ' := (mkS σ [(1539, v_likeness_ready), (769, v_made_size), (641, v_now_size), (2632, v_pairs_ready), (2372, v_search_reach), (1286, v_ways_far), (1283, v_ways_ready), (1285, v_ways_size), (1284, v_ways_whole)] [] [(16, (upd v_list (x1.toNatClampNeg) x2)), (13, v_made_near), (11, v_now_near), (22, v_ways_layers), (23, v_ways_reached), (21, v_ways_steps)] [])) (f := v_list) hx hb hK hG (ga_16 g _) hg18 ((gs_16 g _ _).trans (congrArg (g_cells g) (mk_c 0 rfl rfl))) dX8_half_66 (fun H locs hG => ?_)
        refine lv_iinc (v := (x1 + (1 : Int32))) (lv' := [(1, .int (x1 + (1 : Int32))), (0, .ref (g.2.1 0)), (2, .int x2)]) hx hb dX8_half_67 hl (k := 1) rfl (congrArg (fun z => x1 + z) (by decide)) (Nat.le_of_ble_eq_true rfl) rfl (fun ls hl => ?_)
        exact n70 k35 hk35 (x1 + (1 : Int32)) x2 v_likeness_ready v_made_size v_now_size v_pairs_ready v_search_reach v_ways_far v_ways_ready v_ways_size v_ways_whole (upd v_list (x1.toNatClampNeg) x2) v_made_near v_now_near v_ways_layers v_ways_reached v_ways_steps _ _ _ (lv_sub hl [1, 0, 2] rfl) hG h
  have l35 : ∀  (F : Nat) (x1 : Int32) (x2 : Int32) (v_likeness_ready : Int32) (v_made_size : Int32) (v_now_size : Int32) (v_pairs_ready : Int32) (v_search_reach : Int32) (v_ways_far : Int32) (v_ways_ready : Int32) (v_ways_size : Int32) (v_ways_whole : Int32) (v_list : Nat → Int32) (v_made_near : Nat → Int32) (v_now_near : Nat → Int32) (v_ways_layers : Nat → Int32) (v_ways_reached : Nat → Int32) (v_ways_steps : Nat → Int32) (H : Heap) (locs : List Loc) (ls : Array Slot), lv_has ls 4 [(0, .ref (g.2.1 0)), (1, .int x1), (2, .int x2)] → GW g s (mkS σ [(1539, v_likeness_ready), (769, v_made_size), (641, v_now_size), (2632, v_pairs_ready), (2372, v_search_reach), (1286, v_ways_far), (1283, v_ways_ready), (1285, v_ways_size), (1284, v_ways_whole)] [] [(16, v_list), (13, v_made_near), (11, v_now_near), (22, v_ways_layers), (23, v_ways_reached), (21, v_ways_steps)] []) H locs → LN_half_l35 F x1 x2 v_likeness_ready v_made_size v_now_size v_pairs_ready v_search_reach v_ways_far v_ways_ready v_ways_size v_ways_whole v_list v_made_near v_now_near v_ways_layers v_ways_reached v_ways_steps = some (r, w_likeness_ready, w_made_size, w_now_size, w_pairs_ready, w_search_reach, w_ways_far, w_ways_ready, w_ways_size, w_ways_whole, w_list, w_made_near, w_now_near, w_ways_layers, w_ways_reached, w_ways_steps) → Wg p l e 5 114 s m args below meth c g (some (.int r)) (mkS σ [(1539, w_likeness_ready), (769, w_made_size), (641, w_now_size), (2632, w_pairs_ready), (2372, w_search_reach), (1286, w_ways_far), (1283, w_ways_ready), (1285, w_ways_size), (1284, w_ways_whole)] [] [(16, w_list), (13, w_made_near), (11, w_now_near), (22, w_ways_layers), (23, w_ways_reached), (21, w_ways_steps)] []) H locs (F0 m 35 ls []) := by
    intro F
    induction F with
    | zero => intro x1 x2 v_likeness_ready v_made_size v_now_size v_pairs_ready v_search_reach v_ways_far v_ways_ready v_ways_size v_ways_whole v_list v_made_near v_now_near v_ways_layers v_ways_reached v_ways_steps H locs ls hl hG h; exact no_some h
    | succ F ih => intro x1 x2 v_likeness_ready v_made_size v_now_size v_pairs_ready v_search_reach v_ways_far v_ways_ready v_ways_size v_ways_whole v_list v_made_near v_now_near v_ways_layers v_ways_reached v_ways_steps H locs ls hl hG h; exact n35 (fun x1 x2 v_likeness_ready v_made_size v_now_size v_pairs_ready v_search_reach v_ways_far v_ways_ready v_ways_size v_ways_whole v_list v_made_near v_now_near v_ways_layers v_ways_reached v_ways_steps => LN_half_l35 F x1 x2 v_likeness_ready v_made_size v_now_size v_pairs_ready v_search_reach v_ways_far v_ways_ready v_ways_size v_ways_whole v_list v_made_near v_now_near v_ways_layers v_ways_reached v_ways_steps) ih x1 x2 v_likeness_ready v_made_size v_now_size v_pairs_ready v_search_reach v_ways_far v_ways_ready v_ways_size v_ways_whole v_list v_made_near v_now_near v_ways_layers v_ways_reached v_ways_steps H locs ls hl hG h
  refine lv_aload_n hx hb dX8_half_0 rfl (lv_at hl 0 rfl) ?_
  obtain ⟨z19, hc20, h⟩ := bnd_some h
  refine gx_cV (σ' := (mkS σ [(1539, (σ.1 1539)), (769, (σ.1 769)), (641, (σ.1 641)), (2632, (σ.1 2632)), (2372, (σ.1 2372)), (1286, z19.1), (1283, z19.2.1), (1285, z19.2.2.1), (1284, z19.2.2.2.1)] [] [(16, (σ.2.2.1 16)), (13, (σ.2.2.1 13)), (11, (σ.2.2.1 11)), (22, z19.2.2.2.2.1), (23, z19.2.2.2.2.2.1), (21, z19.2.2.2.2.2.2)] [])) (r := none) (rest := []) (As := []) hS9 (c_LN_measure l g (mkS σ [(1539, (σ.1 1539)), (769, (σ.1 769)), (641, (σ.1 641)), (2632, (σ.1 2632)), (2372, (σ.1 2372)), (1286, (σ.1 1286)), (1283, (σ.1 1283)), (1285, (σ.1 1285)), (1284, (σ.1 1284))] [] [(16, (σ.2.2.1 16)), (13, (σ.2.2.1 13)), (11, (σ.2.2.1 11)), (22, (σ.2.2.1 22)), (23, (σ.2.2.1 23)), (21, (σ.2.2.1 21))] []) z19.1 z19.2.1 z19.2.2.1 z19.2.2.2.1 z19.2.2.2.2.1 z19.2.2.2.2.2.1 z19.2.2.2.2.2.2 hc20) (mk_mk rfl rfl rfl rfl) (cwV 0 hts (gz_V mw_3_5 mw_3_7 ms_1_6 mw_1_1 mw_3_8) rfl rfl rfl hdV_X8_measure ⟨Nat.le_of_ble_eq_true rfl, Nat.le_of_ble_eq_true rfl⟩) hK hG (ga_0 g _) rfl rfl rfl hl.1 rfl (Nat.le_of_ble_eq_true rfl) dX8_half_1 (fun H locs hG => ?_)
  refine W.eq (g2 := F0 m 4 ls []) rfl ?_
  refine lv_aload_n hx hb dX8_half_4 rfl (lv_at hl 0 rfl) ?_
  refine gx_get (v := .ref (g.2.1 20)) (C := RX8) (T := TX8) (N := 13) hx hb hts mc_X8 hown hK hG (ga_0 g _) rfl 7 (by decide) hw0 rfl rfl dX8_half_5 ?_
  refine gx_get (v := .int z19.2.2.2.1) (C := RX7) (T := TX7) (N := 7) hx hb hts mc_X7 hown hK hG (ga_20 g _) rfl 4 (by decide) hw5 rfl rfl dX8_half_8 ?_
  refine lv_if_eq (tgt := 28) hx hb dX8_half_11 (by decide) (fun c21 => ?_) (fun c21 => ?_)
  · have h := ite_t c21 h
    exact n28 (σ.1 1539) (σ.1 769) (σ.1 641) (σ.1 2632) (σ.1 2372) z19.1 z19.2.1 z19.2.2.1 z19.2.2.2.1 (σ.2.2.1 16) (σ.2.2.1 13) (σ.2.2.1 11) z19.2.2.2.2.1 z19.2.2.2.2.2.1 z19.2.2.2.2.2.2 _ _ _ (lv_sub hl [] rfl) hG h
  · have h := ite_f c21 h
    refine lv_aload_n hx hb dX8_half_14 rfl (lv_at hl 0 rfl) ?_
    refine gx_get (v := .ref (g.2.1 20)) (C := RX8) (T := TX8) (N := 13) hx hb hts mc_X8 hown hK hG (ga_0 g _) rfl 7 (by decide) hw0 rfl rfl dX8_half_15 ?_
    refine lv_aload_n hx hb dX8_half_18 rfl (lv_at hl 0 rfl) ?_
    refine gx_get (v := .ref (g.2.1 10)) (C := RX8) (T := TX8) (N := 13) hx hb hts mc_X8 hown hK hG (ga_0 g _) rfl 1 (by decide) hw3 rfl rfl dX8_half_19 ?_
    obtain ⟨z22, hc23, h⟩ := bnd_some h
    refine gx_cV (σ' := (mkS σ [(1539, (σ.1 1539)), (769, (σ.1 769)), (641, (σ.1 641)), (2632, (σ.1 2632)), (2372, (σ.1 2372)), (1286, z19.1), (1283, z19.2.1), (1285, z19.2.2.1), (1284, z19.2.2.2.1)] [] [(16, (σ.2.2.1 16)), (13, (σ.2.2.1 13)), (11, (σ.2.2.1 11)), (22, z19.2.2.2.2.1), (23, z19.2.2.2.2.2.1), (21, z19.2.2.2.2.2.2)] [])) (r := (some (.int z22))) (rest := []) (As := [.ref (g.2.1 10)]) hS9 (c_Wy_isOfSides l g (mkS σ [(1539, (σ.1 1539)), (769, (σ.1 769)), (641, (σ.1 641)), (2632, (σ.1 2632)), (2372, (σ.1 2372)), (1286, z19.1), (1283, z19.2.1), (1285, z19.2.2.1), (1284, z19.2.2.2.1)] [] [(16, (σ.2.2.1 16)), (13, (σ.2.2.1 13)), (11, (σ.2.2.1 11)), (22, z19.2.2.2.2.1), (23, z19.2.2.2.2.2.1), (21, z19.2.2.2.2.2.2)] []) z22 hc23) rfl (cwV 1 hts (gz_V mw_3_70 mw_3_71 mw_3_72 mw_1_5 mw_3_73) rfl rfl rfl hdV_X7_isOfSides ⟨Nat.le_of_ble_eq_true rfl, Nat.le_of_ble_eq_true rfl⟩) hK hG (ga_20 g _) rfl rfl rfl hl.1 rfl (Nat.le_of_ble_eq_true rfl) dX8_half_22 (fun H locs hG => ?_)
    refine W.eq (g2 := F0 m 25 ls [.int z22]) rfl ?_
    refine lv_if_ne (tgt := 31) hx hb dX8_half_25 (by decide) (fun c24 => ?_) (fun c24 => ?_)
    · have h := ite_f c24 h
      refine lv_iconst (v := (0 : Int32)) hx hb dX8_half_31 (by decide) ?_
      refine lv_istore_n (lv' := [(1, .int (0 : Int32)), (0, .ref (g.2.1 0))]) hx hb dX8_half_32 rfl hl (Nat.le_of_ble_eq_true rfl) rfl (fun ls hl => ?_)
      refine lv_iconst (v := (0 : Int32)) hx hb dX8_half_33 (by decide) ?_
      refine lv_istore_n (lv' := [(2, .int (0 : Int32)), (1, .int (0 : Int32)), (0, .ref (g.2.1 0))]) hx hb dX8_half_34 rfl hl (Nat.le_of_ble_eq_true rfl) rfl (fun ls hl => ?_)
      exact l35 FUEL (0 : Int32) (0 : Int32) (σ.1 1539) (σ.1 769) (σ.1 641) (σ.1 2632) (σ.1 2372) z19.1 z19.2.1 z19.2.2.1 z19.2.2.2.1 (σ.2.2.1 16) (σ.2.2.1 13) (σ.2.2.1 11) z19.2.2.2.2.1 z19.2.2.2.2.2.1 z19.2.2.2.2.2.2 _ _ _ (lv_sub hl [2, 1, 0] rfl) hG h
    · have h := ite_t c24 h
      exact n28 (σ.1 1539) (σ.1 769) (σ.1 641) (σ.1 2632) (σ.1 2372) z19.1 z19.2.1 z19.2.2.1 z19.2.2.2.1 (σ.2.2.1 16) (σ.2.2.1 13) (σ.2.2.1 11) z19.2.2.2.2.1 z19.2.2.2.2.2.1 z19.2.2.2.2.2.2 _ _ _ (lv_sub hl [] rfl) hG h

set_option maxHeartbeats 4000000 in
set_option maxRecDepth 100000 in
theorem c_Wy_postsWithin (l : Launch) (g : GC) (σ : St) (x1 : Int32) (x2 : Int32) (r : Int32) (h : Wy_postsWithin x1 x2 (σ.2.2.1 22) = some r) : Cn l g yX7_postsWithin (Cond.code yX7_postsWithin cX7_postsWithin 5 (some .int) :: wG) 1 22 [.ref (g.2.1 20), .int x1, .int x2] σ (some (.int r)) σ := by
  unfold Cn
  refine Met.ofW (cc := cX7_postsWithin) (maxL := 5) (ret := (some .int)) (by decide) rfl ?_
  intro p e s m args below meth c s₁ B hml hv
  obtain ⟨hargs, hP0, hK⟩ := hv
  have hx := B.exec
  have hb := B.bytes
  have hr := B.returns
  have hts : ∀ w ∈ wG, w.before args s = true := fun w h => atoms_spec (ws := (Cond.code yX7_postsWithin cX7_postsWithin 5 (some .int) :: wG)) B.pre w (List.mem_cons_of_mem _ h)
  have hown : s.vm.findClass RX7 = some m.cls := findClass_of_methodNamed B.named
  have hlocks := B.notSynchronized
  have hS9 : CallFix p m c cX7_postsWithin 5 s args wG RX7 := ⟨hx, hb, hml, hown, hts⟩
  have hf9 : entryFrame m args 5 = _ := (congrArg (fun a => entryFrame m a 5) hargs).trans (lg_entry_eq m [.ref (g.2.1 20), .int x1, .int x2] 5)
  show Wg p l e 1 22 s m args below meth c g (some (.int r)) σ s.heap [] (entryFrame m args 5)
  rw [hf9]
  have hl := lv_entry ([.ref (g.2.1 20), .int x1, .int x2]) (n := 5) (Nat.le_of_ble_eq_true rfl)
  generalize (lg_sl ([.ref (g.2.1 20), .int x1, .int x2]) ++ List.replicate (5 - (lg_sl ([.ref (g.2.1 20), .int x1, .int x2])).length) Slot.unset).toArray = ls at hl ⊢
  have hl : lv_has ls 5 [(0, .ref (g.2.1 20)), (1, .int x1), (2, .int x2)] := hl
  have hG : GW g s σ s.heap [] := ⟨hP0, va_S.rf⟩
  unfold Wy_postsWithin at h
  have n34 : ∀ (x3 : Int32) (H : Heap) (locs : List Loc) (ls : Array Slot), lv_has ls 5 [(3, .int x3)] → GW g s σ H locs → Wy_postsWithin_n34 x3 = some r → Wg p l e 1 22 s m args below meth c g (some (.int r)) σ H locs (F0 m 34 ls []) := by
    intro x3 H locs ls hl hG h
    unfold Wy_postsWithin_n34 at h
    refine lv_iload_n hx hb dX7_postsWithin_34 rfl (lv_at hl 0 rfl) ?_
    cases h
    exact gx_iret hx hb hr hlocks hG dX7_postsWithin_35
  have n5 : ∀ (k5 : Int32 → Int32 → Int32 → Int32 → Option (Int32)) (hk5 : ∀ (x1 : Int32) (x2 : Int32) (x3 : Int32) (x4 : Int32) (H : Heap) (locs : List Loc) (ls : Array Slot), lv_has ls 5 [(0, .ref (g.2.1 20)), (1, .int x1), (2, .int x2), (3, .int x3), (4, .int x4)] → GW g s σ H locs → k5 x1 x2 x3 x4 = some r → Wg p l e 1 22 s m args below meth c g (some (.int r)) σ H locs (F0 m 5 ls [])) (x1 : Int32) (x2 : Int32) (x3 : Int32) (x4 : Int32) (H : Heap) (locs : List Loc) (ls : Array Slot), lv_has ls 5 [(0, .ref (g.2.1 20)), (1, .int x1), (2, .int x2), (3, .int x3), (4, .int x4)] → GW g s σ H locs → Wy_postsWithin_n5 k5 (σ.2.2.1 22) x1 x2 x3 x4 = some r → Wg p l e 1 22 s m args below meth c g (some (.int r)) σ H locs (F0 m 5 ls []) := by
    intro k5 hk5 x1 x2 x3 x4 H locs ls hl hG h
    unfold Wy_postsWithin_n5 at h
    refine lv_iload hx hb dX7_postsWithin_5 (lv_at hl 4 rfl) ?_
    refine lv_iload_n hx hb dX7_postsWithin_7 rfl (lv_at hl 2 rfl) ?_
    refine lv_icmp_gt (tgt := 34) hx hb dX7_postsWithin_8 (by decide) (fun c1 => ?_) (fun c1 => ?_)
    · have h := ite_t c1 h
      exact n34 x3 _ _ _ (lv_sub hl [3] rfl) hG h
    · have h := ite_f c1 h
      refine lv_iload hx hb dX7_postsWithin_11 (lv_at hl 4 rfl) ?_
      refine lv_bipush (v := (32 : Int32)) hx hb dX7_postsWithin_13 (by decide) ?_
      refine lv_icmp_ge (tgt := 34) hx hb dX7_postsWithin_15 (by decide) (fun c2 => ?_) (fun c2 => ?_)
      · have h := ite_t c2 h
        exact n34 x3 _ _ _ (lv_sub hl [3] rfl) hG h
      · have h := ite_f c2 h
        refine lv_iload_n hx hb dX7_postsWithin_18 rfl (lv_at hl 3 rfl) ?_
        refine lv_aload_n hx hb dX7_postsWithin_19 rfl (lv_at hl 0 rfl) ?_
        refine lv_iload_n hx hb dX7_postsWithin_20 rfl (lv_at hl 1 rfl) ?_
        refine lv_iload hx hb dX7_postsWithin_21 (lv_at hl 4 rfl) ?_
        obtain ⟨z3, hc4, h⟩ := bnd_some h
        refine gx_cV (σ' := σ) (r := (some (.int z3))) (rest := [.int x3]) (As := [.int x1, .int x4]) hS9 (c_Wy_postsAt l g σ x1 x4 z3 hc4) rfl (cwV 2 hts (gz_V mw_3_61 mw_3_62 mw_3_63 mw_1_5 mw_3_64) rfl rfl rfl hdV_X7_postsAt ⟨Nat.le_of_ble_eq_true rfl, Nat.le_of_ble_eq_true rfl⟩) hK hG (ga_20 g _) rfl rfl rfl hl.1 rfl (Nat.le_of_ble_eq_true rfl) dX7_postsWithin_23 (fun H locs hG => ?_)
        refine W.eq (g2 := F0 m 26 ls [.int z3, .int x3]) rfl ?_
        refine lv_ior hx hb dX7_postsWithin_26 ?_
        refine lv_istore_n (lv' := [(3, .int (x3 ||| z3)), (0, .ref (g.2.1 20)), (1, .int x1), (2, .int x2), (4, .int x4)]) hx hb dX7_postsWithin_27 rfl hl (Nat.le_of_ble_eq_true rfl) rfl (fun ls hl => ?_)
        refine lv_iinc (v := (x4 + (1 : Int32))) (lv' := [(4, .int (x4 + (1 : Int32))), (3, .int (x3 ||| z3)), (0, .ref (g.2.1 20)), (1, .int x1), (2, .int x2)]) hx hb dX7_postsWithin_28 hl (k := 4) rfl (congrArg (fun z => x4 + z) (by decide)) (Nat.le_of_ble_eq_true rfl) rfl (fun ls hl => ?_)
        refine lv_goto (tgt := 5) hx hb dX7_postsWithin_31 (by decide) ?_
        exact hk5 x1 x2 (x3 ||| z3) (x4 + (1 : Int32)) _ _ _ (lv_sub hl [2, 3, 4, 1, 0] rfl) hG h
  have l5 : ∀  (F : Nat) (x1 : Int32) (x2 : Int32) (x3 : Int32) (x4 : Int32) (H : Heap) (locs : List Loc) (ls : Array Slot), lv_has ls 5 [(0, .ref (g.2.1 20)), (1, .int x1), (2, .int x2), (3, .int x3), (4, .int x4)] → GW g s σ H locs → Wy_postsWithin_l5 (σ.2.2.1 22) F x1 x2 x3 x4 = some r → Wg p l e 1 22 s m args below meth c g (some (.int r)) σ H locs (F0 m 5 ls []) := by
    intro F
    induction F with
    | zero => intro x1 x2 x3 x4 H locs ls hl hG h; exact no_some h
    | succ F ih => intro x1 x2 x3 x4 H locs ls hl hG h; exact n5 (fun x1 x2 x3 x4 => Wy_postsWithin_l5 (σ.2.2.1 22) F x1 x2 x3 x4) ih x1 x2 x3 x4 H locs ls hl hG h
  refine lv_iconst (v := (0 : Int32)) hx hb dX7_postsWithin_0 (by decide) ?_
  refine lv_istore_n (lv' := [(3, .int (0 : Int32)), (0, .ref (g.2.1 20)), (1, .int x1), (2, .int x2)]) hx hb dX7_postsWithin_1 rfl hl (Nat.le_of_ble_eq_true rfl) rfl (fun ls hl => ?_)
  refine lv_iconst (v := (0 : Int32)) hx hb dX7_postsWithin_2 (by decide) ?_
  refine lv_istore (lv' := [(4, .int (0 : Int32)), (3, .int (0 : Int32)), (0, .ref (g.2.1 20)), (1, .int x1), (2, .int x2)]) hx hb dX7_postsWithin_3 hl (Nat.le_of_ble_eq_true rfl) rfl (fun ls hl => ?_)
  exact l5 FUEL x1 x2 (0 : Int32) (0 : Int32) _ _ _ (lv_sub hl [2, 3, 4, 1, 0] rfl) hG h

set_option maxHeartbeats 4000000 in
set_option maxRecDepth 100000 in
theorem c_Se_candidates (l : Launch) (g : GC) (σ : St) (x1 : Int32) (r : Int32) (h : Se_candidates x1 (σ.1 2371) (σ.2.2.1 38) = some r) : Cn l g yX4_candidates (Cond.code yX4_candidates cX4_candidates 5 (some .int) :: wG) 2 40 [.ref (g.2.1 37), .int x1] σ (some (.int r)) σ := by
  unfold Cn
  refine Met.ofW (cc := cX4_candidates) (maxL := 5) (ret := (some .int)) (by decide) rfl ?_
  intro p e s m args below meth c s₁ B hml hv
  obtain ⟨hargs, hP0, hK⟩ := hv
  have hx := B.exec
  have hb := B.bytes
  have hr := B.returns
  have hts : ∀ w ∈ wG, w.before args s = true := fun w h => atoms_spec (ws := (Cond.code yX4_candidates cX4_candidates 5 (some .int) :: wG)) B.pre w (List.mem_cons_of_mem _ h)
  have hown : s.vm.findClass RX4 = some m.cls := findClass_of_methodNamed B.named
  have hlocks := B.notSynchronized
  have hS9 : CallFix p m c cX4_candidates 5 s args wG RX4 := ⟨hx, hb, hml, hown, hts⟩
  have hw0 := hts _ mw_1_217
  have hw1 := hts _ mw_1_213
  have hw2 := hts _ mw_1_1
  have hw3 := hts _ mw_2_135
  have hw4 := hts _ mw_3_46
  have hf9 : entryFrame m args 5 = _ := (congrArg (fun a => entryFrame m a 5) hargs).trans (lg_entry_eq m [.ref (g.2.1 37), .int x1] 5)
  show Wg p l e 2 40 s m args below meth c g (some (.int r)) σ s.heap [] (entryFrame m args 5)
  rw [hf9]
  have hl := lv_entry ([.ref (g.2.1 37), .int x1]) (n := 5) (Nat.le_of_ble_eq_true rfl)
  generalize (lg_sl ([.ref (g.2.1 37), .int x1]) ++ List.replicate (5 - (lg_sl ([.ref (g.2.1 37), .int x1])).length) Slot.unset).toArray = ls at hl ⊢
  have hl : lv_has ls 5 [(0, .ref (g.2.1 37)), (1, .int x1)] := hl
  have hG : GW g s σ s.heap [] := ⟨hP0, va_S.rf⟩
  unfold Se_candidates at h
  have n64 : ∀ (k22 : Int32 → Int32 → Int32 → Int32 → Option (Int32)) (hk22 : ∀ (x1 : Int32) (x2 : Int32) (x3 : Int32) (x4 : Int32) (H : Heap) (locs : List Loc) (ls : Array Slot), lv_has ls 5 [(0, .ref (g.2.1 37)), (1, .int x1), (2, .int x2), (3, .int x3), (4, .int x4)] → GW g s σ H locs → k22 x1 x2 x3 x4 = some r → Wg p l e 2 40 s m args below meth c g (some (.int r)) σ H locs (F0 m 22 ls [])) (x1 : Int32) (x2 : Int32) (x3 : Int32) (x4 : Int32) (H : Heap) (locs : List Loc) (ls : Array Slot), lv_has ls 5 [(0, .ref (g.2.1 37)), (1, .int x1), (2, .int x2), (3, .int x3), (4, .int x4)] → GW g s σ H locs → Se_candidates_n64 k22 x1 x2 x3 x4 = some r → Wg p l e 2 40 s m args below meth c g (some (.int r)) σ H locs (F0 m 64 ls []) := by
    intro k22 hk22 x1 x2 x3 x4 H locs ls hl hG h
    unfold Se_candidates_n64 at h
    refine lv_iinc (v := (x4 + (1 : Int32))) (lv' := [(4, .int (x4 + (1 : Int32))), (0, .ref (g.2.1 37)), (1, .int x1), (2, .int x2), (3, .int x3)]) hx hb dX4_candidates_64 hl (k := 4) rfl (congrArg (fun z => x4 + z) (by decide)) (Nat.le_of_ble_eq_true rfl) rfl (fun ls hl => ?_)
    refine lv_goto (tgt := 22) hx hb dX4_candidates_67 (by decide) ?_
    exact hk22 x1 x2 x3 (x4 + (1 : Int32)) _ _ _ (lv_sub hl [1, 2, 3, 4, 0] rfl) hG h
  have n70 : ∀ (x3 : Int32) (H : Heap) (locs : List Loc) (ls : Array Slot), lv_has ls 5 [(3, .int x3)] → GW g s σ H locs → Se_candidates_n70 x3 = some r → Wg p l e 2 40 s m args below meth c g (some (.int r)) σ H locs (F0 m 70 ls []) := by
    intro x3 H locs ls hl hG h
    unfold Se_candidates_n70 at h
    refine lv_iload_n hx hb dX4_candidates_70 rfl (lv_at hl 0 rfl) ?_
    cases h
    exact gx_iret hx hb hr hlocks hG dX4_candidates_71
  have n22 : ∀ (k22 : Int32 → Int32 → Int32 → Int32 → Option (Int32)) (hk22 : ∀ (x1 : Int32) (x2 : Int32) (x3 : Int32) (x4 : Int32) (H : Heap) (locs : List Loc) (ls : Array Slot), lv_has ls 5 [(0, .ref (g.2.1 37)), (1, .int x1), (2, .int x2), (3, .int x3), (4, .int x4)] → GW g s σ H locs → k22 x1 x2 x3 x4 = some r → Wg p l e 2 40 s m args below meth c g (some (.int r)) σ H locs (F0 m 22 ls [])) (x1 : Int32) (x2 : Int32) (x3 : Int32) (x4 : Int32) (H : Heap) (locs : List Loc) (ls : Array Slot), lv_has ls 5 [(0, .ref (g.2.1 37)), (1, .int x1), (2, .int x2), (3, .int x3), (4, .int x4)] → GW g s σ H locs → Se_candidates_n22 k22 (σ.1 2371) (σ.2.2.1 38) x1 x2 x3 x4 = some r → Wg p l e 2 40 s m args below meth c g (some (.int r)) σ H locs (F0 m 22 ls []) := by
    intro k22 hk22 x1 x2 x3 x4 H locs ls hl hG h
    unfold Se_candidates_n22 at h
    refine lv_iload hx hb dX4_candidates_22 (lv_at hl 4 rfl) ?_
    refine lv_aload_n hx hb dX4_candidates_24 rfl (lv_at hl 0 rfl) ?_
    refine gx_get (v := .int (σ.1 2371)) (C := RX4) (T := TX4) (N := 6) hx hb hts mc_X4 hown hK hG (ga_37 g _) rfl 3 (by decide) hw0 rfl rfl dX4_candidates_25 ?_
    refine lv_icmp_ge (tgt := 70) hx hb dX4_candidates_28 (by decide) (fun c1 => ?_) (fun c1 => ?_)
    · have h := ite_t c1 h
      exact n70 x3 _ _ _ (lv_sub hl [3] rfl) hG h
    · have h := ite_f c1 h
      refine lv_aload_n hx hb dX4_candidates_31 rfl (lv_at hl 0 rfl) ?_
      refine gx_get (v := .ref (g.2.1 38)) (C := RX4) (T := TX4) (N := 6) hx hb hts mc_X4 hown hK hG (ga_37 g _) rfl 0 (by decide) hw1 rfl rfl dX4_candidates_32 ?_
      refine lv_iload_n hx hb dX4_candidates_35 rfl (lv_at hl 2 rfl) ?_
      obtain ⟨hg2, h⟩ := gd_some h
      refine gx_iald (f := (σ.2.2.1 38)) hx hb hK hG (ga_38 g _) hg2 dX4_candidates_36 ?_
      refine lv_iload hx hb dX4_candidates_37 (lv_at hl 4 rfl) ?_
      obtain ⟨z3, hc4, h⟩ := bnd_some h
      refine gx_cN (σ' := σ) (r := (some (.int z3))) (rest := []) (As := [.int ((σ.2.2.1 38) (x2.toNatClampNeg)), .int x4]) hS9 (c_LN_isIn l g σ ((σ.2.2.1 38) (x2.toNatClampNeg)) x4 z3 hc4) rfl (va_cnB 2 hts (gz_N mw_2_136) rfl rfl rfl (hK.2.2 _ (List.mem_of_getElem? (i := 3) rfl)) hw2 hdS_X8_isIn ⟨Nat.le_of_ble_eq_true rfl, Nat.le_of_ble_eq_true rfl⟩) hw3 hK hG rfl hl.1 rfl (Nat.le_of_ble_eq_true rfl) dX4_candidates_39 (fun H locs hG => ?_)
      refine W.eq (g2 := F0 m 42 ls [.int z3]) rfl ?_
      refine lv_if_eq (tgt := 64) hx hb dX4_candidates_42 (by decide) (fun c5 => ?_) (fun c5 => ?_)
      · have h := ite_t c5 h
        exact n64 k22 hk22 x1 x2 x3 x4 _ _ _ (lv_sub hl [0, 1, 2, 3, 4] rfl) hG h
      · have h := ite_f c5 h
        refine lv_aload_n hx hb dX4_candidates_45 rfl (lv_at hl 0 rfl) ?_
        refine gx_get (v := .ref (g.2.1 38)) (C := RX4) (T := TX4) (N := 6) hx hb hts mc_X4 hown hK hG (ga_37 g _) rfl 0 (by decide) hw1 rfl rfl dX4_candidates_46 ?_
        refine lv_iload hx hb dX4_candidates_49 (lv_at hl 4 rfl) ?_
        obtain ⟨hg6, h⟩ := gd_some h
        refine gx_iald (f := (σ.2.2.1 38)) hx hb hK hG (ga_38 g _) hg6 dX4_candidates_51 ?_
        refine lv_iload_n hx hb dX4_candidates_52 rfl (lv_at hl 1 rfl) ?_
        refine lv_iand hx hb dX4_candidates_53 ?_
        refine lv_if_ne (tgt := 64) hx hb dX4_candidates_54 (by decide) (fun c7 => ?_) (fun c7 => ?_)
        · have h := ite_f c7 h
          exact n64 k22 hk22 x1 x2 x3 x4 _ _ _ (lv_sub hl [0, 1, 2, 3, 4] rfl) hG h
        · have h := ite_t c7 h
          refine lv_iload_n hx hb dX4_candidates_57 rfl (lv_at hl 3 rfl) ?_
          refine lv_iconst (v := (1 : Int32)) hx hb dX4_candidates_58 (by decide) ?_
          refine lv_iload hx hb dX4_candidates_59 (lv_at hl 4 rfl) ?_
          refine lv_ishl hx hb dX4_candidates_61 ?_
          refine lv_ior hx hb dX4_candidates_62 ?_
          refine lv_topi (fun y8 ey8 => ?_)
          have h := lt_at h ey8
          refine lv_istore_n (lv' := [(3, .int y8), (0, .ref (g.2.1 37)), (1, .int x1), (2, .int x2), (4, .int x4)]) hx hb dX4_candidates_63 rfl hl (Nat.le_of_ble_eq_true rfl) rfl (fun ls hl => ?_)
          exact n64 k22 hk22 x1 x2 y8 x4 _ _ _ (lv_sub hl [1, 2, 3, 0, 4] rfl) hG h
  have l22 : ∀  (F : Nat) (x1 : Int32) (x2 : Int32) (x3 : Int32) (x4 : Int32) (H : Heap) (locs : List Loc) (ls : Array Slot), lv_has ls 5 [(0, .ref (g.2.1 37)), (1, .int x1), (2, .int x2), (3, .int x3), (4, .int x4)] → GW g s σ H locs → Se_candidates_l22 (σ.1 2371) (σ.2.2.1 38) F x1 x2 x3 x4 = some r → Wg p l e 2 40 s m args below meth c g (some (.int r)) σ H locs (F0 m 22 ls []) := by
    intro F
    induction F with
    | zero => intro x1 x2 x3 x4 H locs ls hl hG h; exact no_some h
    | succ F ih => intro x1 x2 x3 x4 H locs ls hl hG h; exact n22 (fun x1 x2 x3 x4 => Se_candidates_l22 (σ.1 2371) (σ.2.2.1 38) F x1 x2 x3 x4) ih x1 x2 x3 x4 H locs ls hl hG h
  refine lv_iload_n hx hb dX4_candidates_0 rfl (lv_at hl 1 rfl) ?_
  refine lv_iconst (v := (-1 : Int32)) hx hb dX4_candidates_1 (by decide) ?_
  refine lv_ixor hx hb dX4_candidates_2 ?_
  obtain ⟨z9, hc10, h⟩ := bnd_some h
  refine gx_cN (σ' := σ) (r := (some (.int z9))) (rest := []) (As := [.int (x1 ^^^ (-1 : Int32))]) hS9 (c_LN_lowestBit l g σ (x1 ^^^ (-1 : Int32)) z9 hc10) rfl (va_cnB 1 hts (gz_N mw_3_47) rfl rfl rfl (hK.2.2 _ (List.mem_of_getElem? (i := 2) rfl)) hw2 hdS_X8_lowestBit ⟨Nat.le_of_ble_eq_true rfl, Nat.le_of_ble_eq_true rfl⟩) hw4 hK hG rfl hl.1 rfl (Nat.le_of_ble_eq_true rfl) dX4_candidates_3 (fun H locs hG => ?_)
  refine W.eq (g2 := F0 m 6 ls [.int z9]) rfl ?_
  refine lv_istore_n (lv' := [(2, .int z9), (0, .ref (g.2.1 37)), (1, .int x1)]) hx hb dX4_candidates_6 rfl hl (Nat.le_of_ble_eq_true rfl) rfl (fun ls hl => ?_)
  refine lv_iload_n hx hb dX4_candidates_7 rfl (lv_at hl 0 rfl) ?_
  refine lv_aload_n hx hb dX4_candidates_8 rfl (lv_at hl 1 rfl) ?_
  refine gx_get (v := .int (σ.1 2371)) (C := RX4) (T := TX4) (N := 6) hx hb hts mc_X4 hown hK hG (ga_37 g _) rfl 3 (by decide) hw0 rfl rfl dX4_candidates_9 ?_
  refine lv_icmp_lt (tgt := 17) hx hb dX4_candidates_12 (by decide) (fun c11 => ?_) (fun c11 => ?_)
  · have h := ite_t c11 h
    refine lv_iconst (v := (0 : Int32)) hx hb dX4_candidates_17 (by decide) ?_
    refine lv_istore_n (lv' := [(3, .int (0 : Int32)), (2, .int z9), (0, .ref (g.2.1 37)), (1, .int x1)]) hx hb dX4_candidates_18 rfl hl (Nat.le_of_ble_eq_true rfl) rfl (fun ls hl => ?_)
    refine lv_iconst (v := (0 : Int32)) hx hb dX4_candidates_19 (by decide) ?_
    refine lv_istore (lv' := [(4, .int (0 : Int32)), (3, .int (0 : Int32)), (2, .int z9), (0, .ref (g.2.1 37)), (1, .int x1)]) hx hb dX4_candidates_20 hl (Nat.le_of_ble_eq_true rfl) rfl (fun ls hl => ?_)
    exact l22 FUEL x1 z9 (0 : Int32) (0 : Int32) _ _ _ (lv_sub hl [3, 4, 2, 1, 0] rfl) hG h
  · have h := ite_f c11 h
    refine lv_iconst (v := (0 : Int32)) hx hb dX4_candidates_15 (by decide) ?_
    cases h
    exact gx_iret hx hb hr hlocks hG dX4_candidates_16

set_option maxHeartbeats 4000000 in
set_option maxRecDepth 100000 in
theorem c_Se_climb (l : Launch) (g : GC) (σ : St) (r : Int32) (w_taken : Nat → Int32) (w_untried : Nat → Int32) (h : Se_climb (σ.1 2371) (σ.2.2.1 38) (σ.2.2.1 39) (σ.2.2.1 40) = some (r, w_taken, w_untried)) : Cn l g yX4_climb (Cond.code yX4_climb cX4_climb 7 (some .int) :: wG) 3 64 [.ref (g.2.1 37)] σ (some (.int r)) (mkS σ [] [] [(39, w_taken), (40, w_untried)] []) := by
  unfold Cn
  refine Met.ofW (cc := cX4_climb) (maxL := 7) (ret := (some .int)) (by decide) rfl ?_
  intro p e s m args below meth c s₁ B hml hv
  obtain ⟨hargs, hP0, hK⟩ := hv
  have hx := B.exec
  have hb := B.bytes
  have hr := B.returns
  have hts : ∀ w ∈ wG, w.before args s = true := fun w h => atoms_spec (ws := (Cond.code yX4_climb cX4_climb 7 (some .int) :: wG)) B.pre w (List.mem_cons_of_mem _ h)
  have hown : s.vm.findClass RX4 = some m.cls := findClass_of_methodNamed B.named
  have hlocks := B.notSynchronized
  have hS9 : CallFix p m c cX4_climb 7 s args wG RX4 := ⟨hx, hb, hml, hown, hts⟩
  have hw0 := hts _ mw_4_71
  have hw1 := hts _ mw_1_216
  have hw2 := hts _ mw_1_1
  have hw3 := hts _ mw_3_46
  have hw4 := hts _ mw_1_214
  have hw5 := hts _ mw_1_213
  have hw6 := hts _ mw_1_217
  have hw7 := hts _ mw_3_31
  have hf9 : entryFrame m args 7 = _ := (congrArg (fun a => entryFrame m a 7) hargs).trans (lg_entry_eq m [.ref (g.2.1 37)] 7)
  show Wg p l e 3 64 s m args below meth c g (some (.int r)) (mkS σ [] [] [(39, w_taken), (40, w_untried)] []) s.heap [] (entryFrame m args 7)
  rw [hf9]
  have hl := lv_entry ([.ref (g.2.1 37)]) (n := 7) (Nat.le_of_ble_eq_true rfl)
  generalize (lg_sl ([.ref (g.2.1 37)]) ++ List.replicate (7 - (lg_sl ([.ref (g.2.1 37)])).length) Slot.unset).toArray = ls at hl ⊢
  have hl : lv_has ls 7 [(0, .ref (g.2.1 37))] := hl
  have hG : GW g s σ s.heap [] := ⟨hP0, va_S.rf⟩
  have hG : GW g s (mkS σ [] [] [(39, (σ.2.2.1 39)), (40, (σ.2.2.1 40))] []) s.heap [] := GW_self [] [] [39, 40] [] hG
  unfold Se_climb at h
  have n49 : ∀ (v_taken : Nat → Int32) (v_untried : Nat → Int32) (H : Heap) (locs : List Loc) (ls : Array Slot), lv_has ls 7 [] → GW g s (mkS σ [] [] [(39, v_taken), (40, v_untried)] []) H locs → Se_climb_n49 v_taken v_untried = some (r, w_taken, w_untried) → Wg p l e 3 64 s m args below meth c g (some (.int r)) (mkS σ [] [] [(39, w_taken), (40, w_untried)] []) H locs (F0 m 49 ls []) := by
    intro v_taken v_untried H locs ls hl hG h
    unfold Se_climb_n49 at h
    refine lv_bipush (v := (-8 : Int32)) hx hb dX4_climb_49 (by decide) ?_
    cases h
    exact gx_iret hx hb hr hlocks hG dX4_climb_51
  have n82 : ∀ (v_taken : Nat → Int32) (v_untried : Nat → Int32) (H : Heap) (locs : List Loc) (ls : Array Slot), lv_has ls 7 [] → GW g s (mkS σ [] [] [(39, v_taken), (40, v_untried)] []) H locs → Se_climb_n82 v_taken v_untried = some (r, w_taken, w_untried) → Wg p l e 3 64 s m args below meth c g (some (.int r)) (mkS σ [] [] [(39, w_taken), (40, w_untried)] []) H locs (F0 m 82 ls []) := by
    intro v_taken v_untried H locs ls hl hG h
    unfold Se_climb_n82 at h
    refine lv_bipush (v := (-7 : Int32)) hx hb dX4_climb_82 (by decide) ?_
    cases h
    exact gx_iret hx hb hr hlocks hG dX4_climb_84
  have n148 : ∀ (x3 : Int32) (v_taken : Nat → Int32) (v_untried : Nat → Int32) (H : Heap) (locs : List Loc) (ls : Array Slot), lv_has ls 7 [(3, .int x3)] → GW g s (mkS σ [] [] [(39, v_taken), (40, v_untried)] []) H locs → Se_climb_n148 x3 v_taken v_untried = some (r, w_taken, w_untried) → Wg p l e 3 64 s m args below meth c g (some (.int r)) (mkS σ [] [] [(39, w_taken), (40, w_untried)] []) H locs (F0 m 148 ls []) := by
    intro x3 v_taken v_untried H locs ls hl hG h
    unfold Se_climb_n148 at h
    refine lv_iload_n hx hb dX4_climb_148 rfl (lv_at hl 0 rfl) ?_
    cases h
    exact gx_iret hx hb hr hlocks hG dX4_climb_149
  have n161 : ∀ (k29 : Int32 → Int32 → Int32 → Int32 → Int32 → (Nat → Int32) → (Nat → Int32) → Option (Int32 × (Nat → Int32) × (Nat → Int32))) (hk29 : ∀ (x1 : Int32) (x2 : Int32) (x3 : Int32) (x4 : Int32) (x5 : Int32) (v_taken : Nat → Int32) (v_untried : Nat → Int32) (H : Heap) (locs : List Loc) (ls : Array Slot), lv_has ls 7 [(0, .ref (g.2.1 37)), (1, .int x1), (2, .int x2), (3, .int x3), (4, .int x4), (5, .int x5)] → GW g s (mkS σ [] [] [(39, v_taken), (40, v_untried)] []) H locs → k29 x1 x2 x3 x4 x5 v_taken v_untried = some (r, w_taken, w_untried) → Wg p l e 3 64 s m args below meth c g (some (.int r)) (mkS σ [] [] [(39, w_taken), (40, w_untried)] []) H locs (F0 m 29 ls [])) (x1 : Int32) (x2 : Int32) (x3 : Int32) (x4 : Int32) (x5 : Int32) (v_taken : Nat → Int32) (v_untried : Nat → Int32) (H : Heap) (locs : List Loc) (ls : Array Slot), lv_has ls 7 [(0, .ref (g.2.1 37)), (1, .int x1), (2, .int x2), (3, .int x3), (4, .int x4), (5, .int x5)] → GW g s (mkS σ [] [] [(39, v_taken), (40, v_untried)] []) H locs → Se_climb_n161 k29 x1 x2 x3 x4 x5 v_taken v_untried = some (r, w_taken, w_untried) → Wg p l e 3 64 s m args below meth c g (some (.int r)) (mkS σ [] [] [(39, w_taken), (40, w_untried)] []) H locs (F0 m 161 ls []) := by
    intro k29 hk29 x1 x2 x3 x4 x5 v_taken v_untried H locs ls hl hG h
    unfold Se_climb_n161 at h
    refine lv_iinc (v := (x5 + (1 : Int32))) (lv' := [(5, .int (x5 + (1 : Int32))), (0, .ref (g.2.1 37)), (1, .int x1), (2, .int x2), (3, .int x3), (4, .int x4)]) hx hb dX4_climb_161 hl (k := 5) rfl (congrArg (fun z => x5 + z) (by decide)) (Nat.le_of_ble_eq_true rfl) rfl (fun ls hl => ?_)
    refine lv_goto (tgt := 29) hx hb dX4_climb_164 (by decide) ?_
    exact hk29 x1 x2 x3 x4 (x5 + (1 : Int32)) v_taken v_untried _ _ _ (lv_sub hl [1, 2, 3, 4, 5, 0] rfl) hG h
  have n167 : ∀ (v_taken : Nat → Int32) (v_untried : Nat → Int32) (H : Heap) (locs : List Loc) (ls : Array Slot), lv_has ls 7 [] → GW g s (mkS σ [] [] [(39, v_taken), (40, v_untried)] []) H locs → Se_climb_n167 v_taken v_untried = some (r, w_taken, w_untried) → Wg p l e 3 64 s m args below meth c g (some (.int r)) (mkS σ [] [] [(39, w_taken), (40, w_untried)] []) H locs (F0 m 167 ls []) := by
    intro v_taken v_untried H locs ls hl hG h
    unfold Se_climb_n167 at h
    refine lv_bipush (v := (-7 : Int32)) hx hb dX4_climb_167 (by decide) ?_
    cases h
    exact gx_iret hx hb hr hlocks hG dX4_climb_169
  have n29 : ∀ (k29 : Int32 → Int32 → Int32 → Int32 → Int32 → (Nat → Int32) → (Nat → Int32) → Option (Int32 × (Nat → Int32) × (Nat → Int32))) (hk29 : ∀ (x1 : Int32) (x2 : Int32) (x3 : Int32) (x4 : Int32) (x5 : Int32) (v_taken : Nat → Int32) (v_untried : Nat → Int32) (H : Heap) (locs : List Loc) (ls : Array Slot), lv_has ls 7 [(0, .ref (g.2.1 37)), (1, .int x1), (2, .int x2), (3, .int x3), (4, .int x4), (5, .int x5)] → GW g s (mkS σ [] [] [(39, v_taken), (40, v_untried)] []) H locs → k29 x1 x2 x3 x4 x5 v_taken v_untried = some (r, w_taken, w_untried) → Wg p l e 3 64 s m args below meth c g (some (.int r)) (mkS σ [] [] [(39, w_taken), (40, w_untried)] []) H locs (F0 m 29 ls [])) (x1 : Int32) (x2 : Int32) (x3 : Int32) (x4 : Int32) (x5 : Int32) (v_taken : Nat → Int32) (v_untried : Nat → Int32) (H : Heap) (locs : List Loc) (ls : Array Slot), lv_has ls 7 [(0, .ref (g.2.1 37)), (1, .int x1), (2, .int x2), (3, .int x3), (4, .int x4), (5, .int x5)] → GW g s (mkS σ [] [] [(39, v_taken), (40, v_untried)] []) H locs → Se_climb_n29 k29 (σ.1 2371) (σ.2.2.1 38) x1 x2 x3 x4 x5 v_taken v_untried = some (r, w_taken, w_untried) → Wg p l e 3 64 s m args below meth c g (some (.int r)) (mkS σ [] [] [(39, w_taken), (40, w_untried)] []) H locs (F0 m 29 ls []) := by
    intro k29 hk29 x1 x2 x3 x4 x5 v_taken v_untried H locs ls hl hG h
    unfold Se_climb_n29 at h
    refine lv_iload hx hb dX4_climb_29 (lv_at hl 5 rfl) ?_
    refine lv_ldc hx hb hown hw0 dX4_climb_31 ?_
    refine lv_icmp_gt (tgt := 167) hx hb dX4_climb_33 (by decide) (fun c1 => ?_) (fun c1 => ?_)
    · have h := ite_t c1 h
      exact n167 v_taken v_untried _ _ _ (lv_sub hl [] rfl) hG h
    · have h := ite_f c1 h
      refine lv_aload_n hx hb dX4_climb_36 rfl (lv_at hl 0 rfl) ?_
      refine gx_get (v := .ref (g.2.1 40)) (C := RX4) (T := TX4) (N := 6) hx hb hts mc_X4 hown hK hG (ga_37 g _) rfl 2 (by decide) hw1 rfl rfl dX4_climb_37 ?_
      refine lv_iload_n hx hb dX4_climb_40 rfl (lv_at hl 3 rfl) ?_
      obtain ⟨hg2, h⟩ := gd_some h
      refine gx_iald (f := v_untried) hx hb hK hG (ga_40 g _) hg2 dX4_climb_41 ?_
      refine lv_if_ne (tgt := 74) hx hb dX4_climb_42 (by decide) (fun c3 => ?_) (fun c3 => ?_)
      · have h := ite_f c3 h
        refine lv_iload hx hb dX4_climb_74 (lv_at hl 4 rfl) ?_
        refine lv_sipush (v := (20000 : Int32)) hx hb dX4_climb_76 (by decide) ?_
        refine lv_icmp_ne (tgt := 85) hx hb dX4_climb_79 (by decide) (fun c4 => ?_) (fun c4 => ?_)
        · have h := ite_f c4 h
          refine lv_iinc (v := (x4 + (1 : Int32))) (lv' := [(4, .int (x4 + (1 : Int32))), (0, .ref (g.2.1 37)), (1, .int x1), (2, .int x2), (3, .int x3), (5, .int x5)]) hx hb dX4_climb_85 hl (k := 4) rfl (congrArg (fun z => x4 + z) (by decide)) (Nat.le_of_ble_eq_true rfl) rfl (fun ls hl => ?_)
          refine lv_aload_n hx hb dX4_climb_88 rfl (lv_at hl 1 rfl) ?_
          refine gx_get (v := .ref (g.2.1 40)) (C := RX4) (T := TX4) (N := 6) hx hb hts mc_X4 hown hK hG (ga_37 g _) rfl 2 (by decide) hw1 rfl rfl dX4_climb_89 ?_
          refine lv_iload_n hx hb dX4_climb_92 rfl (lv_at hl 4 rfl) ?_
          refine gx_iald (f := v_untried) hx hb hK hG (ga_40 g _) hg2 dX4_climb_93 ?_
          obtain ⟨z5, hc6, h⟩ := bnd_some h
          refine gx_cN (σ' := (mkS σ [] [] [(39, v_taken), (40, v_untried)] [])) (r := (some (.int z5))) (rest := []) (As := [.int (v_untried (x3.toNatClampNeg))]) hS9 (c_LN_lowestBit l g (mkS σ [] [] [(39, v_taken), (40, v_untried)] []) (v_untried (x3.toNatClampNeg)) z5 hc6) rfl (va_cnB 1 hts (gz_N mw_3_47) rfl rfl rfl (hK.2.2 _ (List.mem_of_getElem? (i := 2) rfl)) hw2 hdS_X8_lowestBit ⟨Nat.le_of_ble_eq_true rfl, Nat.le_of_ble_eq_true rfl⟩) hw3 hK hG rfl hl.1 rfl (Nat.le_of_ble_eq_true rfl) dX4_climb_94 (fun H locs hG => ?_)
          refine W.eq (g2 := F0 m 97 ls [.int z5]) rfl ?_
          refine lv_istore (lv' := [(6, .int z5), (4, .int (x4 + (1 : Int32))), (0, .ref (g.2.1 37)), (1, .int x1), (2, .int x2), (3, .int x3), (5, .int x5)]) hx hb dX4_climb_97 hl (Nat.le_of_ble_eq_true rfl) rfl (fun ls hl => ?_)
          refine lv_aload_n hx hb dX4_climb_99 rfl (lv_at hl 2 rfl) ?_
          refine gx_get (v := .ref (g.2.1 40)) (C := RX4) (T := TX4) (N := 6) hx hb hts mc_X4 hown hK hG (ga_37 g _) rfl 2 (by decide) hw1 rfl rfl dX4_climb_100 ?_
          refine lv_iload_n hx hb dX4_climb_103 rfl (lv_at hl 5 rfl) ?_
          refine lv_dup2_11 hx hb dX4_climb_104 rfl rfl ?_
          refine gx_iald (f := v_untried) hx hb hK hG (ga_40 g _) hg2 dX4_climb_105 ?_
          refine lv_aload_n hx hb dX4_climb_106 rfl (lv_at hl 2 rfl) ?_
          refine gx_get (v := .ref (g.2.1 40)) (C := RX4) (T := TX4) (N := 6) hx hb hts mc_X4 hown hK hG (ga_37 g _) rfl 2 (by decide) hw1 rfl rfl dX4_climb_107 ?_
          refine lv_iload_n hx hb dX4_climb_110 rfl (lv_at hl 5 rfl) ?_
          refine gx_iald (f := v_untried) hx hb hK hG (ga_40 g _) hg2 dX4_climb_111 ?_
          refine lv_iconst (v := (1 : Int32)) hx hb dX4_climb_112 (by decide) ?_
          refine lv_isub hx hb dX4_climb_113 ?_
          refine lv_iand hx hb dX4_climb_114 ?_
          refine lv_topi (fun y7 ey7 => ?_)
          have h := lt_at h ey7
          refine gx_iast (σ' := (mkS σ [] [] [(39, v_taken), (40, (upd v_untried (x3.toNatClampNeg) y7))] [])) (f := v_untried) hx hb hK hG (ga_40 g _) hg2 ((gs_40 g _ _).trans (congrArg (g_cells g) (mk_c 1 rfl rfl))) dX4_climb_115 (fun H locs hG => ?_)
          refine lv_aload_n hx hb dX4_climb_116 rfl (lv_at hl 2 rfl) ?_
          refine gx_get (v := .ref (g.2.1 39)) (C := RX4) (T := TX4) (N := 6) hx hb hts mc_X4 hown hK hG (ga_37 g _) rfl 1 (by decide) hw4 rfl rfl dX4_climb_117 ?_
          refine lv_iload_n hx hb dX4_climb_120 rfl (lv_at hl 5 rfl) ?_
          refine lv_iload hx hb dX4_climb_121 (lv_at hl 0 rfl) ?_
          refine gx_iast (σ' := (mkS σ [] [] [(39, (upd v_taken (x3.toNatClampNeg) z5)), (40, (upd v_untried (x3.toNatClampNeg) y7))] [])) (f := v_taken) hx hb hK hG (ga_39 g _) hg2 ((gs_39 g _ _).trans (congrArg (g_cells g) (mk_c 0 rfl rfl))) dX4_climb_123 (fun H locs hG => ?_)
          refine lv_iload_n hx hb dX4_climb_124 rfl (lv_at hl 4 rfl) ?_
          refine lv_aload_n hx hb dX4_climb_125 rfl (lv_at hl 2 rfl) ?_
          refine gx_get (v := .ref (g.2.1 38)) (C := RX4) (T := TX4) (N := 6) hx hb hts mc_X4 hown hK hG (ga_37 g _) rfl 0 (by decide) hw5 rfl rfl dX4_climb_126 ?_
          refine lv_iload hx hb dX4_climb_129 (lv_at hl 0 rfl) ?_
          obtain ⟨hg8, h⟩ := gd_some h
          refine gx_iald (f := (σ.2.2.1 38)) hx hb hK hG (ga_38 g _) hg8 dX4_climb_131 ?_
          refine lv_ior hx hb dX4_climb_132 ?_
          refine lv_istore_n (lv' := [(2, .int (x2 ||| ((σ.2.2.1 38) (z5.toNatClampNeg)))), (6, .int z5), (4, .int (x4 + (1 : Int32))), (0, .ref (g.2.1 37)), (1, .int x1), (3, .int x3), (5, .int x5)]) hx hb dX4_climb_133 rfl hl (Nat.le_of_ble_eq_true rfl) rfl (fun ls hl => ?_)
          refine lv_iinc (v := (x3 + (1 : Int32))) (lv' := [(3, .int (x3 + (1 : Int32))), (2, .int (x2 ||| ((σ.2.2.1 38) (z5.toNatClampNeg)))), (6, .int z5), (4, .int (x4 + (1 : Int32))), (0, .ref (g.2.1 37)), (1, .int x1), (5, .int x5)]) hx hb dX4_climb_134 hl (k := 5) rfl (congrArg (fun z => x3 + z) (by decide)) (Nat.le_of_ble_eq_true rfl) rfl (fun ls hl => ?_)
          refine lv_iload_n hx hb dX4_climb_137 rfl (lv_at hl 1 rfl) ?_
          refine lv_iload_n hx hb dX4_climb_138 rfl (lv_at hl 5 rfl) ?_
          refine lv_icmp_eq (tgt := 148) hx hb dX4_climb_139 (by decide) (fun c9 => ?_) (fun c9 => ?_)
          · have h := ite_t c9 h
            exact n148 (x3 + (1 : Int32)) (upd v_taken (x3.toNatClampNeg) z5) (upd v_untried (x3.toNatClampNeg) y7) _ _ _ (lv_sub hl [0] rfl) hG h
          · have h := ite_f c9 h
            refine lv_iload_n hx hb dX4_climb_142 rfl (lv_at hl 0 rfl) ?_
            refine lv_bipush (v := (32 : Int32)) hx hb dX4_climb_143 (by decide) ?_
            refine lv_icmp_ne (tgt := 150) hx hb dX4_climb_145 (by decide) (fun c10 => ?_) (fun c10 => ?_)
            · have h := ite_f c10 h
              refine lv_aload_n hx hb dX4_climb_150 rfl (lv_at hl 4 rfl) ?_
              refine gx_get (v := .ref (g.2.1 40)) (C := RX4) (T := TX4) (N := 6) hx hb hts mc_X4 hown hK hG (ga_37 g _) rfl 2 (by decide) hw1 rfl rfl dX4_climb_151 ?_
              refine lv_iload_n hx hb dX4_climb_154 rfl (lv_at hl 0 rfl) ?_
              refine lv_aload_n hx hb dX4_climb_155 rfl (lv_at hl 4 rfl) ?_
              refine lv_iload_n hx hb dX4_climb_156 rfl (lv_at hl 1 rfl) ?_
              obtain ⟨z11, hc12, h⟩ := bnd_some h
              refine gx_cV (σ' := (mkS σ [] [] [(39, (upd v_taken (x3.toNatClampNeg) z5)), (40, (upd v_untried (x3.toNatClampNeg) y7))] [])) (r := (some (.int z11))) (rest := [.int (x3 + (1 : Int32)), .ref (g.2.1 40)]) (As := [.int (x2 ||| ((σ.2.2.1 38) (z5.toNatClampNeg)))]) hS9 (c_Se_candidates l g (mkS σ [] [] [(39, (upd v_taken (x3.toNatClampNeg) z5)), (40, (upd v_untried (x3.toNatClampNeg) y7))] []) (x2 ||| ((σ.2.2.1 38) (z5.toNatClampNeg))) z11 hc12) rfl (cwV 1 hts (gz_V mw_4_65 mw_4_67 ms_2_11 mw_1_9 mw_4_68) rfl rfl rfl hdV_X4_candidates ⟨Nat.le_of_ble_eq_true rfl, Nat.le_of_ble_eq_true rfl⟩) hK hG (ga_37 g _) rfl rfl rfl hl.1 rfl (Nat.le_of_ble_eq_true rfl) dX4_climb_157 (fun H locs hG => ?_)
              refine W.eq (g2 := F0 m 160 ls [.int z11, .int (x3 + (1 : Int32)), .ref (g.2.1 40)]) rfl ?_
              obtain ⟨hg13, h⟩ := gd_some h
              refine gx_iast (σ' := (mkS σ [] [] [(39, (upd v_taken (x3.toNatClampNeg) z5)), (40, (upd (upd v_untried (x3.toNatClampNeg) y7) ((x3 + (1 : Int32)).toNatClampNeg) z11))] [])) (f := (upd v_untried (x3.toNatClampNeg) y7)) hx hb hK hG (ga_40 g _) hg13 ((gs_40 g _ _).trans (congrArg (g_cells g) (mk_c 1 rfl rfl))) dX4_climb_160 (fun H locs hG => ?_)
              exact n161 k29 hk29 x1 (x2 ||| ((σ.2.2.1 38) (z5.toNatClampNeg))) (x3 + (1 : Int32)) (x4 + (1 : Int32)) x5 (upd v_taken (x3.toNatClampNeg) z5) (upd (upd v_untried (x3.toNatClampNeg) y7) ((x3 + (1 : Int32)).toNatClampNeg) z11) _ _ _ (lv_sub hl [4, 5, 1, 0, 3, 6] rfl) hG h
            · have h := ite_t c10 h
              exact n148 (x3 + (1 : Int32)) (upd v_taken (x3.toNatClampNeg) z5) (upd v_untried (x3.toNatClampNeg) y7) _ _ _ (lv_sub hl [0] rfl) hG h
        · have h := ite_t c4 h
          exact n82 v_taken v_untried _ _ _ (lv_sub hl [] rfl) hG h
      · have h := ite_t c3 h
        refine lv_iload_n hx hb dX4_climb_45 rfl (lv_at hl 3 rfl) ?_
        refine lv_if_ne (tgt := 52) hx hb dX4_climb_46 (by decide) (fun c14 => ?_) (fun c14 => ?_)
        · have h := ite_f c14 h
          refine lv_iinc (v := (x3 + (-1 : Int32))) (lv' := [(3, .int (x3 + (-1 : Int32))), (0, .ref (g.2.1 37)), (1, .int x1), (2, .int x2), (4, .int x4), (5, .int x5)]) hx hb dX4_climb_52 hl (k := 3) rfl (congrArg (fun z => x3 + z) (by decide)) (Nat.le_of_ble_eq_true rfl) rfl (fun ls hl => ?_)
          refine lv_iload_n hx hb dX4_climb_55 rfl (lv_at hl 3 rfl) ?_
          refine lv_aload_n hx hb dX4_climb_56 rfl (lv_at hl 1 rfl) ?_
          refine gx_get (v := .ref (g.2.1 38)) (C := RX4) (T := TX4) (N := 6) hx hb hts mc_X4 hown hK hG (ga_37 g _) rfl 0 (by decide) hw5 rfl rfl dX4_climb_57 ?_
          refine lv_aload_n hx hb dX4_climb_60 rfl (lv_at hl 1 rfl) ?_
          refine gx_get (v := .ref (g.2.1 39)) (C := RX4) (T := TX4) (N := 6) hx hb hts mc_X4 hown hK hG (ga_37 g _) rfl 1 (by decide) hw4 rfl rfl dX4_climb_61 ?_
          refine lv_iload_n hx hb dX4_climb_64 rfl (lv_at hl 0 rfl) ?_
          obtain ⟨hg15, h⟩ := gd_some h
          refine gx_iald (f := v_taken) hx hb hK hG (ga_39 g _) hg15 dX4_climb_65 ?_
          obtain ⟨hg16, h⟩ := gd_some h
          refine gx_iald (f := (σ.2.2.1 38)) hx hb hK hG (ga_38 g _) hg16 dX4_climb_66 ?_
          refine lv_iconst (v := (-1 : Int32)) hx hb dX4_climb_67 (by decide) ?_
          refine lv_ixor hx hb dX4_climb_68 ?_
          refine lv_iand hx hb dX4_climb_69 ?_
          refine lv_topi (fun y17 ey17 => ?_)
          have h := lt_at h ey17
          refine lv_istore_n (lv' := [(2, .int y17), (3, .int (x3 + (-1 : Int32))), (0, .ref (g.2.1 37)), (1, .int x1), (4, .int x4), (5, .int x5)]) hx hb dX4_climb_70 rfl hl (Nat.le_of_ble_eq_true rfl) rfl (fun ls hl => ?_)
          refine lv_goto (tgt := 161) hx hb dX4_climb_71 (by decide) ?_
          exact n161 k29 hk29 x1 y17 (x3 + (-1 : Int32)) x4 x5 v_taken v_untried _ _ _ (lv_sub hl [2, 3, 0, 1, 4, 5] rfl) hG h
        · have h := ite_t c14 h
          exact n49 v_taken v_untried _ _ _ (lv_sub hl [] rfl) hG h
  have l29 : ∀  (F : Nat) (x1 : Int32) (x2 : Int32) (x3 : Int32) (x4 : Int32) (x5 : Int32) (v_taken : Nat → Int32) (v_untried : Nat → Int32) (H : Heap) (locs : List Loc) (ls : Array Slot), lv_has ls 7 [(0, .ref (g.2.1 37)), (1, .int x1), (2, .int x2), (3, .int x3), (4, .int x4), (5, .int x5)] → GW g s (mkS σ [] [] [(39, v_taken), (40, v_untried)] []) H locs → Se_climb_l29 (σ.1 2371) (σ.2.2.1 38) F x1 x2 x3 x4 x5 v_taken v_untried = some (r, w_taken, w_untried) → Wg p l e 3 64 s m args below meth c g (some (.int r)) (mkS σ [] [] [(39, w_taken), (40, w_untried)] []) H locs (F0 m 29 ls []) := by
    intro F
    induction F with
    | zero => intro x1 x2 x3 x4 x5 v_taken v_untried H locs ls hl hG h; exact no_some h
    | succ F ih => intro x1 x2 x3 x4 x5 v_taken v_untried H locs ls hl hG h; exact n29 (fun x1 x2 x3 x4 x5 v_taken v_untried => Se_climb_l29 (σ.1 2371) (σ.2.2.1 38) F x1 x2 x3 x4 x5 v_taken v_untried) ih x1 x2 x3 x4 x5 v_taken v_untried H locs ls hl hG h
  refine lv_aload_n hx hb dX4_climb_0 rfl (lv_at hl 0 rfl) ?_
  refine gx_get (v := .int (σ.1 2371)) (C := RX4) (T := TX4) (N := 6) hx hb hts mc_X4 hown hK hG (ga_37 g _) rfl 3 (by decide) hw6 rfl rfl dX4_climb_1 ?_
  obtain ⟨z18, hc19, h⟩ := bnd_some h
  refine gx_cN (σ' := (mkS σ [] [] [(39, (σ.2.2.1 39)), (40, (σ.2.2.1 40))] [])) (r := (some (.int z18))) (rest := []) (As := [.int (σ.1 2371)]) hS9 (c_LN_allOf l g (mkS σ [] [] [(39, (σ.2.2.1 39)), (40, (σ.2.2.1 40))] []) (σ.1 2371) z18 hc19) rfl (va_cnB 1 hts (gz_N mw_3_32) rfl rfl rfl (hK.2.2 _ (List.mem_of_getElem? (i := 1) rfl)) hw2 hdS_X8_allOf ⟨Nat.le_of_ble_eq_true rfl, Nat.le_of_ble_eq_true rfl⟩) hw7 hK hG rfl hl.1 rfl (Nat.le_of_ble_eq_true rfl) dX4_climb_4 (fun H locs hG => ?_)
  refine W.eq (g2 := F0 m 7 ls [.int z18]) rfl ?_
  refine lv_istore_n (lv' := [(1, .int z18), (0, .ref (g.2.1 37))]) hx hb dX4_climb_7 rfl hl (Nat.le_of_ble_eq_true rfl) rfl (fun ls hl => ?_)
  refine lv_iconst (v := (0 : Int32)) hx hb dX4_climb_8 (by decide) ?_
  refine lv_istore_n (lv' := [(2, .int (0 : Int32)), (1, .int z18), (0, .ref (g.2.1 37))]) hx hb dX4_climb_9 rfl hl (Nat.le_of_ble_eq_true rfl) rfl (fun ls hl => ?_)
  refine lv_iconst (v := (0 : Int32)) hx hb dX4_climb_10 (by decide) ?_
  refine lv_istore_n (lv' := [(3, .int (0 : Int32)), (2, .int (0 : Int32)), (1, .int z18), (0, .ref (g.2.1 37))]) hx hb dX4_climb_11 rfl hl (Nat.le_of_ble_eq_true rfl) rfl (fun ls hl => ?_)
  refine lv_iconst (v := (0 : Int32)) hx hb dX4_climb_12 (by decide) ?_
  refine lv_istore (lv' := [(4, .int (0 : Int32)), (3, .int (0 : Int32)), (2, .int (0 : Int32)), (1, .int z18), (0, .ref (g.2.1 37))]) hx hb dX4_climb_13 hl (Nat.le_of_ble_eq_true rfl) rfl (fun ls hl => ?_)
  refine lv_aload_n hx hb dX4_climb_15 rfl (lv_at hl 4 rfl) ?_
  refine gx_get (v := .ref (g.2.1 40)) (C := RX4) (T := TX4) (N := 6) hx hb hts mc_X4 hown hK hG (ga_37 g _) rfl 2 (by decide) hw1 rfl rfl dX4_climb_16 ?_
  refine lv_iconst (v := (0 : Int32)) hx hb dX4_climb_19 (by decide) ?_
  refine lv_aload_n hx hb dX4_climb_20 rfl (lv_at hl 4 rfl) ?_
  refine lv_iload_n hx hb dX4_climb_21 rfl (lv_at hl 2 rfl) ?_
  obtain ⟨z20, hc21, h⟩ := bnd_some h
  refine gx_cV (σ' := (mkS σ [] [] [(39, (σ.2.2.1 39)), (40, (σ.2.2.1 40))] [])) (r := (some (.int z20))) (rest := [.int (0 : Int32), .ref (g.2.1 40)]) (As := [.int (0 : Int32)]) hS9 (c_Se_candidates l g (mkS σ [] [] [(39, (σ.2.2.1 39)), (40, (σ.2.2.1 40))] []) (0 : Int32) z20 hc21) rfl (cwV 1 hts (gz_V mw_4_65 mw_4_67 ms_2_11 mw_1_9 mw_4_68) rfl rfl rfl hdV_X4_candidates ⟨Nat.le_of_ble_eq_true rfl, Nat.le_of_ble_eq_true rfl⟩) hK hG (ga_37 g _) rfl rfl rfl hl.1 rfl (Nat.le_of_ble_eq_true rfl) dX4_climb_22 (fun H locs hG => ?_)
  refine W.eq (g2 := F0 m 25 ls [.int z20, .int (0 : Int32), .ref (g.2.1 40)]) rfl ?_
  refine gx_iast (σ' := (mkS σ [] [] [(39, (σ.2.2.1 39)), (40, (upd (σ.2.2.1 40) ((0 : Int32).toNatClampNeg) z20))] [])) (f := (σ.2.2.1 40)) hx hb hK hG (ga_40 g _) (by decide) ((gs_40 g _ _).trans (congrArg (g_cells g) (mk_c 1 rfl rfl))) dX4_climb_25 (fun H locs hG => ?_)
  refine lv_iconst (v := (0 : Int32)) hx hb dX4_climb_26 (by decide) ?_
  refine lv_istore (lv' := [(5, .int (0 : Int32)), (4, .int (0 : Int32)), (3, .int (0 : Int32)), (2, .int (0 : Int32)), (1, .int z18), (0, .ref (g.2.1 37))]) hx hb dX4_climb_27 hl (Nat.le_of_ble_eq_true rfl) rfl (fun ls hl => ?_)
  exact l29 FUEL z18 (0 : Int32) (0 : Int32) (0 : Int32) (0 : Int32) (σ.2.2.1 39) (upd (σ.2.2.1 40) ((0 : Int32).toNatClampNeg) z20) _ _ _ (lv_sub hl [5, 4, 3, 2, 1, 0] rfl) hG h

set_option maxHeartbeats 4000000 in
set_option maxRecDepth 100000 in
theorem c_Se_run (l : Launch) (g : GC) (σ : St) (x2 : Int32) (x3 : Int32) (w_found : Int32) (w_reach : Int32) (w_size : Int32) (w_balls : Nat → Int32) (w_taken : Nat → Int32) (w_untried : Nat → Int32) (h : Se_run x2 x3 (σ.1 2373) (σ.1 2372) (σ.1 2371) (σ.2.2.1 38) (σ.2.2.1 22) (σ.2.2.1 39) (σ.2.2.1 40) = some (w_found, w_reach, w_size, w_balls, w_taken, w_untried)) : Cn l g yX4_run (Cond.code yX4_run cX4_run 5 none :: wG) 4 90 [.ref (g.2.1 37), .ref (g.2.1 20), .int x2, .int x3] σ none (mkS σ [(2373, w_found), (2372, w_reach), (2371, w_size)] [] [(38, w_balls), (39, w_taken), (40, w_untried)] []) := by
  unfold Cn
  refine Met.ofW (cc := cX4_run) (maxL := 5) (ret := none) (by decide) rfl ?_
  intro p e s m args below meth c s₁ B hml hv
  obtain ⟨hargs, hP0, hK⟩ := hv
  have hx := B.exec
  have hb := B.bytes
  have hr := B.returns
  have hts : ∀ w ∈ wG, w.before args s = true := fun w h => atoms_spec (ws := (Cond.code yX4_run cX4_run 5 none :: wG)) B.pre w (List.mem_cons_of_mem _ h)
  have hown : s.vm.findClass RX4 = some m.cls := findClass_of_methodNamed B.named
  have hlocks := B.notSynchronized
  have hS9 : CallFix p m c cX4_run 5 s args wG RX4 := ⟨hx, hb, hml, hown, hts⟩
  have hw0 := hts _ mw_1_220
  have hw1 := hts _ mw_1_218
  have hw2 := hts _ mw_1_217
  have hw3 := hts _ mw_1_213
  have hf9 : entryFrame m args 5 = _ := (congrArg (fun a => entryFrame m a 5) hargs).trans (lg_entry_eq m [.ref (g.2.1 37), .ref (g.2.1 20), .int x2, .int x3] 5)
  show Wg p l e 4 90 s m args below meth c g none (mkS σ [(2373, w_found), (2372, w_reach), (2371, w_size)] [] [(38, w_balls), (39, w_taken), (40, w_untried)] []) s.heap [] (entryFrame m args 5)
  rw [hf9]
  have hl := lv_entry ([.ref (g.2.1 37), .ref (g.2.1 20), .int x2, .int x3]) (n := 5) (Nat.le_of_ble_eq_true rfl)
  generalize (lg_sl ([.ref (g.2.1 37), .ref (g.2.1 20), .int x2, .int x3]) ++ List.replicate (5 - (lg_sl ([.ref (g.2.1 37), .ref (g.2.1 20), .int x2, .int x3])).length) Slot.unset).toArray = ls at hl ⊢
  have hl : lv_has ls 5 [(0, .ref (g.2.1 37)), (1, .ref (g.2.1 20)), (2, .int x2), (3, .int x3)] := hl
  have hG : GW g s σ s.heap [] := ⟨hP0, va_S.rf⟩
  have hG : GW g s (mkS σ [(2373, (σ.1 2373)), (2372, (σ.1 2372)), (2371, (σ.1 2371))] [] [(38, (σ.2.2.1 38)), (39, (σ.2.2.1 39)), (40, (σ.2.2.1 40))] []) s.heap [] := GW_self [2373, 2372, 2371] [] [38, 39, 40] [] hG
  unfold Se_run at h
  have n37 : ∀ (x3 : Int32) (v_found : Int32) (v_reach : Int32) (v_size : Int32) (v_balls : Nat → Int32) (v_taken : Nat → Int32) (v_untried : Nat → Int32) (H : Heap) (locs : List Loc) (ls : Array Slot), lv_has ls 5 [(0, .ref (g.2.1 37)), (3, .int x3)] → GW g s (mkS σ [(2373, v_found), (2372, v_reach), (2371, v_size)] [] [(38, v_balls), (39, v_taken), (40, v_untried)] []) H locs → Se_run_n37 x3 v_found v_reach v_size v_balls v_taken v_untried = some (w_found, w_reach, w_size, w_balls, w_taken, w_untried) → Wg p l e 4 90 s m args below meth c g none (mkS σ [(2373, w_found), (2372, w_reach), (2371, w_size)] [] [(38, w_balls), (39, w_taken), (40, w_untried)] []) H locs (F0 m 37 ls []) := by
    intro x3 v_found v_reach v_size v_balls v_taken v_untried H locs ls hl hG h
    unfold Se_run_n37 at h
    refine lv_aload_n hx hb dX4_run_37 rfl (lv_at hl 0 rfl) ?_
    refine lv_aload_n hx hb dX4_run_38 rfl (lv_at hl 0 rfl) ?_
    obtain ⟨z1, hc2, h⟩ := bnd_some h
    refine gx_cV (σ' := (mkS σ [(2373, v_found), (2372, v_reach), (2371, v_size)] [] [(38, v_balls), (39, z1.2.1), (40, z1.2.2)] [])) (r := (some (.int z1.1))) (rest := [.ref (g.2.1 37)]) (As := []) hS9 (c_Se_climb l g (mkS σ [(2373, v_found), (2372, v_reach), (2371, v_size)] [] [(38, v_balls), (39, v_taken), (40, v_untried)] []) z1.1 z1.2.1 z1.2.2 hc2) (mk_mk rfl rfl rfl rfl) (cwV 0 hts (gz_V mw_4_60 mw_4_62 ms_2_10 mw_1_9 mw_4_63) rfl rfl rfl hdV_X4_climb ⟨Nat.le_of_ble_eq_true rfl, Nat.le_of_ble_eq_true rfl⟩) hK hG (ga_37 g _) rfl rfl rfl hl.1 rfl (Nat.le_of_ble_eq_true rfl) dX4_run_39 (fun H locs hG => ?_)
    refine W.eq (g2 := F0 m 42 ls [.int z1.1, .ref (g.2.1 37)]) rfl ?_
    refine gx_put (σ' := (mkS σ [(2373, z1.1), (2372, v_reach), (2371, v_size)] [] [(38, v_balls), (39, z1.2.1), (40, z1.2.2)] [])) (C := RX4) (T := TX4) (N := 6) hx hb hts mc_X4 tyX4 tyX4_ok nmX4 hown hK hG (ga_37 g _) rfl 5 (by decide) hw0 rfl rfl rfl rfl (Nat.le_of_ble_eq_true rfl) ((gf_2373 g _ _).trans (congrArg (g_cells g) (mk_a 0 rfl rfl))) dX4_run_42 (fun H locs hG => ?_)
    refine lv_aload_n hx hb dX4_run_45 rfl (lv_at hl 0 rfl) ?_
    refine lv_iload_n hx hb dX4_run_46 rfl (lv_at hl 1 rfl) ?_
    refine gx_put (σ' := (mkS σ [(2373, z1.1), (2372, x3), (2371, v_size)] [] [(38, v_balls), (39, z1.2.1), (40, z1.2.2)] [])) (C := RX4) (T := TX4) (N := 6) hx hb hts mc_X4 tyX4 tyX4_ok nmX4 hown hK hG (ga_37 g _) rfl 4 (by decide) hw1 rfl rfl rfl rfl (Nat.le_of_ble_eq_true rfl) ((gf_2372 g _ _).trans (congrArg (g_cells g) (mk_a 1 rfl rfl))) dX4_run_47 (fun H locs hG => ?_)
    cases h
    exact gx_vret hx hb hr hlocks hG dX4_run_50
  have n8 : ∀ (k8 : Int32 → Int32 → Int32 → Int32 → Int32 → (Nat → Int32) → (Nat → Int32) → (Nat → Int32) → Option (Int32 × Int32 × Int32 × (Nat → Int32) × (Nat → Int32) × (Nat → Int32))) (hk8 : ∀ (x3 : Int32) (x4 : Int32) (v_found : Int32) (v_reach : Int32) (v_size : Int32) (v_balls : Nat → Int32) (v_taken : Nat → Int32) (v_untried : Nat → Int32) (H : Heap) (locs : List Loc) (ls : Array Slot), lv_has ls 5 [(0, .ref (g.2.1 37)), (1, .ref (g.2.1 20)), (3, .int x3), (4, .int x4)] → GW g s (mkS σ [(2373, v_found), (2372, v_reach), (2371, v_size)] [] [(38, v_balls), (39, v_taken), (40, v_untried)] []) H locs → k8 x3 x4 v_found v_reach v_size v_balls v_taken v_untried = some (w_found, w_reach, w_size, w_balls, w_taken, w_untried) → Wg p l e 4 90 s m args below meth c g none (mkS σ [(2373, w_found), (2372, w_reach), (2371, w_size)] [] [(38, w_balls), (39, w_taken), (40, w_untried)] []) H locs (F0 m 8 ls [])) (x3 : Int32) (x4 : Int32) (v_found : Int32) (v_reach : Int32) (v_size : Int32) (v_balls : Nat → Int32) (v_taken : Nat → Int32) (v_untried : Nat → Int32) (H : Heap) (locs : List Loc) (ls : Array Slot), lv_has ls 5 [(0, .ref (g.2.1 37)), (1, .ref (g.2.1 20)), (3, .int x3), (4, .int x4)] → GW g s (mkS σ [(2373, v_found), (2372, v_reach), (2371, v_size)] [] [(38, v_balls), (39, v_taken), (40, v_untried)] []) H locs → Se_run_n8 k8 (σ.2.2.1 22) x3 x4 v_found v_reach v_size v_balls v_taken v_untried = some (w_found, w_reach, w_size, w_balls, w_taken, w_untried) → Wg p l e 4 90 s m args below meth c g none (mkS σ [(2373, w_found), (2372, w_reach), (2371, w_size)] [] [(38, w_balls), (39, w_taken), (40, w_untried)] []) H locs (F0 m 8 ls []) := by
    intro k8 hk8 x3 x4 v_found v_reach v_size v_balls v_taken v_untried H locs ls hl hG h
    unfold Se_run_n8 at h
    refine lv_iload hx hb dX4_run_8 (lv_at hl 3 rfl) ?_
    refine lv_aload_n hx hb dX4_run_10 rfl (lv_at hl 0 rfl) ?_
    refine gx_get (v := .int v_size) (C := RX4) (T := TX4) (N := 6) hx hb hts mc_X4 hown hK hG (ga_37 g _) rfl 3 (by decide) hw2 rfl rfl dX4_run_11 ?_
    refine lv_icmp_ge (tgt := 37) hx hb dX4_run_14 (by decide) (fun c3 => ?_) (fun c3 => ?_)
    · have h := ite_t c3 h
      exact n37 x3 v_found v_reach v_size v_balls v_taken v_untried _ _ _ (lv_sub hl [0, 2] rfl) hG h
    · have h := ite_f c3 h
      refine lv_aload_n hx hb dX4_run_17 rfl (lv_at hl 0 rfl) ?_
      refine gx_get (v := .ref (g.2.1 38)) (C := RX4) (T := TX4) (N := 6) hx hb hts mc_X4 hown hK hG (ga_37 g _) rfl 0 (by decide) hw3 rfl rfl dX4_run_18 ?_
      refine lv_iload hx hb dX4_run_21 (lv_at hl 3 rfl) ?_
      refine lv_aload_n hx hb dX4_run_23 rfl (lv_at hl 1 rfl) ?_
      refine lv_iload hx hb dX4_run_24 (lv_at hl 3 rfl) ?_
      refine lv_iload_n hx hb dX4_run_26 rfl (lv_at hl 2 rfl) ?_
      obtain ⟨z4, hc5, h⟩ := bnd_some h
      refine gx_cV (σ' := (mkS σ [(2373, v_found), (2372, v_reach), (2371, v_size)] [] [(38, v_balls), (39, v_taken), (40, v_untried)] [])) (r := (some (.int z4))) (rest := [.int x4, .ref (g.2.1 38)]) (As := [.int x4, .int x3]) hS9 (c_Wy_postsWithin l g (mkS σ [(2373, v_found), (2372, v_reach), (2371, v_size)] [] [(38, v_balls), (39, v_taken), (40, v_untried)] []) x4 x3 z4 hc5) rfl (cwV 2 hts (gz_V mw_4_56 mw_4_57 mw_4_58 mw_1_5 mw_4_59) rfl rfl rfl hdV_X7_postsWithin ⟨Nat.le_of_ble_eq_true rfl, Nat.le_of_ble_eq_true rfl⟩) hK hG (ga_20 g _) rfl rfl rfl hl.1 rfl (Nat.le_of_ble_eq_true rfl) dX4_run_27 (fun H locs hG => ?_)
      refine W.eq (g2 := F0 m 30 ls [.int z4, .int x4, .ref (g.2.1 38)]) rfl ?_
      obtain ⟨hg6, h⟩ := gd_some h
      refine gx_iast (σ' := (mkS σ [(2373, v_found), (2372, v_reach), (2371, v_size)] [] [(38, (upd v_balls (x4.toNatClampNeg) z4)), (39, v_taken), (40, v_untried)] [])) (f := v_balls) hx hb hK hG (ga_38 g _) hg6 ((gs_38 g _ _).trans (congrArg (g_cells g) (mk_c 0 rfl rfl))) dX4_run_30 (fun H locs hG => ?_)
      refine lv_iinc (v := (x4 + (1 : Int32))) (lv' := [(4, .int (x4 + (1 : Int32))), (0, .ref (g.2.1 37)), (1, .ref (g.2.1 20)), (3, .int x3)]) hx hb dX4_run_31 hl (k := 3) rfl (congrArg (fun z => x4 + z) (by decide)) (Nat.le_of_ble_eq_true rfl) rfl (fun ls hl => ?_)
      refine lv_goto (tgt := 8) hx hb dX4_run_34 (by decide) ?_
      exact hk8 x3 (x4 + (1 : Int32)) v_found v_reach v_size (upd v_balls (x4.toNatClampNeg) z4) v_taken v_untried _ _ _ (lv_sub hl [1, 2, 3, 0] rfl) hG h
  have l8 : ∀  (F : Nat) (x3 : Int32) (x4 : Int32) (v_found : Int32) (v_reach : Int32) (v_size : Int32) (v_balls : Nat → Int32) (v_taken : Nat → Int32) (v_untried : Nat → Int32) (H : Heap) (locs : List Loc) (ls : Array Slot), lv_has ls 5 [(0, .ref (g.2.1 37)), (1, .ref (g.2.1 20)), (3, .int x3), (4, .int x4)] → GW g s (mkS σ [(2373, v_found), (2372, v_reach), (2371, v_size)] [] [(38, v_balls), (39, v_taken), (40, v_untried)] []) H locs → Se_run_l8 (σ.2.2.1 22) F x3 x4 v_found v_reach v_size v_balls v_taken v_untried = some (w_found, w_reach, w_size, w_balls, w_taken, w_untried) → Wg p l e 4 90 s m args below meth c g none (mkS σ [(2373, w_found), (2372, w_reach), (2371, w_size)] [] [(38, w_balls), (39, w_taken), (40, w_untried)] []) H locs (F0 m 8 ls []) := by
    intro F
    induction F with
    | zero => intro x3 x4 v_found v_reach v_size v_balls v_taken v_untried H locs ls hl hG h; exact no_some h
    | succ F ih => intro x3 x4 v_found v_reach v_size v_balls v_taken v_untried H locs ls hl hG h; exact n8 (fun x3 x4 v_found v_reach v_size v_balls v_taken v_untried => Se_run_l8 (σ.2.2.1 22) F x3 x4 v_found v_reach v_size v_balls v_taken v_untried) ih x3 x4 v_found v_reach v_size v_balls v_taken v_untried H locs ls hl hG h
  refine lv_aload_n hx hb dX4_run_0 rfl (lv_at hl 0 rfl) ?_
  refine lv_iload_n hx hb dX4_run_1 rfl (lv_at hl 2 rfl) ?_
  refine gx_put (σ' := (mkS σ [(2373, (σ.1 2373)), (2372, (σ.1 2372)), (2371, x2)] [] [(38, (σ.2.2.1 38)), (39, (σ.2.2.1 39)), (40, (σ.2.2.1 40))] [])) (C := RX4) (T := TX4) (N := 6) hx hb hts mc_X4 tyX4 tyX4_ok nmX4 hown hK hG (ga_37 g _) rfl 3 (by decide) hw2 rfl rfl rfl rfl (Nat.le_of_ble_eq_true rfl) ((gf_2371 g _ _).trans (congrArg (g_cells g) (mk_a 2 rfl rfl))) dX4_run_2 (fun H locs hG => ?_)
  refine lv_iconst (v := (0 : Int32)) hx hb dX4_run_5 (by decide) ?_
  refine lv_istore (lv' := [(4, .int (0 : Int32)), (0, .ref (g.2.1 37)), (1, .ref (g.2.1 20)), (2, .int x2), (3, .int x3)]) hx hb dX4_run_6 hl (Nat.le_of_ble_eq_true rfl) rfl (fun ls hl => ?_)
  exact l8 FUEL x3 (0 : Int32) (σ.1 2373) (σ.1 2372) x2 (σ.2.2.1 38) (σ.2.2.1 39) (σ.2.2.1 40) _ _ _ (lv_sub hl [1, 2, 4, 0] rfl) hG h

set_option maxHeartbeats 4000000 in
set_option maxRecDepth 100000 in
theorem c_LN_perfect (l : Launch) (g : GC) (σ : St) (x1 : Int32) (r : Int32) (w_search_found : Int32) (w_search_reach : Int32) (w_search_size : Int32) (w_ways_far : Int32) (w_ways_ready : Int32) (w_ways_size : Int32) (w_ways_whole : Int32) (w_search_balls : Nat → Int32) (w_search_taken : Nat → Int32) (w_search_untried : Nat → Int32) (w_ways_layers : Nat → Int32) (w_ways_reached : Nat → Int32) (w_ways_steps : Nat → Int32) (h : LN_perfect x1 (σ.1 641) (σ.1 2373) (σ.1 2372) (σ.1 2371) (σ.1 1286) (σ.1 1283) (σ.1 1285) (σ.1 1284) (σ.2.2.1 11) (σ.2.2.1 38) (σ.2.2.1 39) (σ.2.2.1 40) (σ.2.2.1 22) (σ.2.2.1 23) (σ.2.2.1 21) = some (r, w_search_found, w_search_reach, w_search_size, w_ways_far, w_ways_ready, w_ways_size, w_ways_whole, w_search_balls, w_search_taken, w_search_untried, w_ways_layers, w_ways_reached, w_ways_steps)) : Cn l g yX8_perfect (Cond.code yX8_perfect cX8_perfect 2 (some .int) :: wG) 5 114 [.ref (g.2.1 0), .int x1] σ (some (.int r)) (mkS σ [(2373, w_search_found), (2372, w_search_reach), (2371, w_search_size), (1286, w_ways_far), (1283, w_ways_ready), (1285, w_ways_size), (1284, w_ways_whole)] [] [(38, w_search_balls), (39, w_search_taken), (40, w_search_untried), (22, w_ways_layers), (23, w_ways_reached), (21, w_ways_steps)] []) := by
  unfold Cn
  refine Met.ofW (cc := cX8_perfect) (maxL := 2) (ret := (some .int)) (by decide) rfl ?_
  intro p e s m args below meth c s₁ B hml hv
  obtain ⟨hargs, hP0, hK⟩ := hv
  have hx := B.exec
  have hb := B.bytes
  have hr := B.returns
  have hts : ∀ w ∈ wG, w.before args s = true := fun w h => atoms_spec (ws := (Cond.code yX8_perfect cX8_perfect 2 (some .int) :: wG)) B.pre w (List.mem_cons_of_mem _ h)
  have hown : s.vm.findClass RX8 = some m.cls := findClass_of_methodNamed B.named
  have hlocks := B.notSynchronized
  have hS9 : CallFix p m c cX8_perfect 2 s args wG RX8 := ⟨hx, hb, hml, hown, hts⟩
  have hw0 := hts _ mw_2_47
  have hw1 := hts _ mw_1_221
  have hw2 := hts _ mw_2_38
  have hw3 := hts _ mw_1_61
  have hw4 := hts _ mw_1_219
  have hw5 := hts _ mw_2_44
  have hf9 : entryFrame m args 2 = _ := (congrArg (fun a => entryFrame m a 2) hargs).trans (lg_entry_eq m [.ref (g.2.1 0), .int x1] 2)
  show Wg p l e 5 114 s m args below meth c g (some (.int r)) (mkS σ [(2373, w_search_found), (2372, w_search_reach), (2371, w_search_size), (1286, w_ways_far), (1283, w_ways_ready), (1285, w_ways_size), (1284, w_ways_whole)] [] [(38, w_search_balls), (39, w_search_taken), (40, w_search_untried), (22, w_ways_layers), (23, w_ways_reached), (21, w_ways_steps)] []) s.heap [] (entryFrame m args 2)
  rw [hf9]
  have hl := lv_entry ([.ref (g.2.1 0), .int x1]) (n := 2) (Nat.le_of_ble_eq_true rfl)
  generalize (lg_sl ([.ref (g.2.1 0), .int x1]) ++ List.replicate (2 - (lg_sl ([.ref (g.2.1 0), .int x1])).length) Slot.unset).toArray = ls at hl ⊢
  have hl : lv_has ls 2 [(0, .ref (g.2.1 0)), (1, .int x1)] := hl
  have hG : GW g s σ s.heap [] := ⟨hP0, va_S.rf⟩
  have hG : GW g s (mkS σ [(2373, (σ.1 2373)), (2372, (σ.1 2372)), (2371, (σ.1 2371)), (1286, (σ.1 1286)), (1283, (σ.1 1283)), (1285, (σ.1 1285)), (1284, (σ.1 1284))] [] [(38, (σ.2.2.1 38)), (39, (σ.2.2.1 39)), (40, (σ.2.2.1 40)), (22, (σ.2.2.1 22)), (23, (σ.2.2.1 23)), (21, (σ.2.2.1 21))] []) s.heap [] := GW_self [2373, 2372, 2371, 1286, 1283, 1285, 1284] [] [38, 39, 40, 22, 23, 21] [] hG
  unfold LN_perfect at h
  have n10 : ∀ (v_search_found : Int32) (v_search_reach : Int32) (v_search_size : Int32) (v_ways_far : Int32) (v_ways_ready : Int32) (v_ways_size : Int32) (v_ways_whole : Int32) (v_search_balls : Nat → Int32) (v_search_taken : Nat → Int32) (v_search_untried : Nat → Int32) (v_ways_layers : Nat → Int32) (v_ways_reached : Nat → Int32) (v_ways_steps : Nat → Int32) (H : Heap) (locs : List Loc) (ls : Array Slot), lv_has ls 2 [] → GW g s (mkS σ [(2373, v_search_found), (2372, v_search_reach), (2371, v_search_size), (1286, v_ways_far), (1283, v_ways_ready), (1285, v_ways_size), (1284, v_ways_whole)] [] [(38, v_search_balls), (39, v_search_taken), (40, v_search_untried), (22, v_ways_layers), (23, v_ways_reached), (21, v_ways_steps)] []) H locs → LN_perfect_n10 v_search_found v_search_reach v_search_size v_ways_far v_ways_ready v_ways_size v_ways_whole v_search_balls v_search_taken v_search_untried v_ways_layers v_ways_reached v_ways_steps = some (r, w_search_found, w_search_reach, w_search_size, w_ways_far, w_ways_ready, w_ways_size, w_ways_whole, w_search_balls, w_search_taken, w_search_untried, w_ways_layers, w_ways_reached, w_ways_steps) → Wg p l e 5 114 s m args below meth c g (some (.int r)) (mkS σ [(2373, w_search_found), (2372, w_search_reach), (2371, w_search_size), (1286, w_ways_far), (1283, w_ways_ready), (1285, w_ways_size), (1284, w_ways_whole)] [] [(38, w_search_balls), (39, w_search_taken), (40, w_search_untried), (22, w_ways_layers), (23, w_ways_reached), (21, w_ways_steps)] []) H locs (F0 m 10 ls []) := by
    intro v_search_found v_search_reach v_search_size v_ways_far v_ways_ready v_ways_size v_ways_whole v_search_balls v_search_taken v_search_untried v_ways_layers v_ways_reached v_ways_steps H locs ls hl hG h
    unfold LN_perfect_n10 at h
    refine lv_iconst (v := (-1 : Int32)) hx hb dX8_perfect_10 (by decide) ?_
    cases h
    exact gx_iret hx hb hr hlocks hG dX8_perfect_11
  have n59 : ∀ (v_search_found : Int32) (v_search_reach : Int32) (v_search_size : Int32) (v_ways_far : Int32) (v_ways_ready : Int32) (v_ways_size : Int32) (v_ways_whole : Int32) (v_search_balls : Nat → Int32) (v_search_taken : Nat → Int32) (v_search_untried : Nat → Int32) (v_ways_layers : Nat → Int32) (v_ways_reached : Nat → Int32) (v_ways_steps : Nat → Int32) (H : Heap) (locs : List Loc) (ls : Array Slot), lv_has ls 2 [(0, .ref (g.2.1 0))] → GW g s (mkS σ [(2373, v_search_found), (2372, v_search_reach), (2371, v_search_size), (1286, v_ways_far), (1283, v_ways_ready), (1285, v_ways_size), (1284, v_ways_whole)] [] [(38, v_search_balls), (39, v_search_taken), (40, v_search_untried), (22, v_ways_layers), (23, v_ways_reached), (21, v_ways_steps)] []) H locs → LN_perfect_n59 v_search_found v_search_reach v_search_size v_ways_far v_ways_ready v_ways_size v_ways_whole v_search_balls v_search_taken v_search_untried v_ways_layers v_ways_reached v_ways_steps = some (r, w_search_found, w_search_reach, w_search_size, w_ways_far, w_ways_ready, w_ways_size, w_ways_whole, w_search_balls, w_search_taken, w_search_untried, w_ways_layers, w_ways_reached, w_ways_steps) → Wg p l e 5 114 s m args below meth c g (some (.int r)) (mkS σ [(2373, w_search_found), (2372, w_search_reach), (2371, w_search_size), (1286, w_ways_far), (1283, w_ways_ready), (1285, w_ways_size), (1284, w_ways_whole)] [] [(38, w_search_balls), (39, w_search_taken), (40, w_search_untried), (22, w_ways_layers), (23, w_ways_reached), (21, w_ways_steps)] []) H locs (F0 m 59 ls []) := by
    intro v_search_found v_search_reach v_search_size v_ways_far v_ways_ready v_ways_size v_ways_whole v_search_balls v_search_taken v_search_untried v_ways_layers v_ways_reached v_ways_steps H locs ls hl hG h
    unfold LN_perfect_n59 at h
    refine lv_aload_n hx hb dX8_perfect_59 rfl (lv_at hl 0 rfl) ?_
    refine gx_get (v := .ref (g.2.1 37)) (C := RX8) (T := TX8) (N := 13) hx hb hts mc_X8 hown hK hG (ga_0 g _) rfl 10 (by decide) hw0 rfl rfl dX8_perfect_60 ?_
    refine gx_get (v := .int v_search_found) (C := RX4) (T := TX4) (N := 6) hx hb hts mc_X4 hown hK hG (ga_37 g _) rfl 5 (by decide) hw1 rfl rfl dX8_perfect_63 ?_
    cases h
    exact gx_iret hx hb hr hlocks hG dX8_perfect_66
  refine lv_iload_n hx hb dX8_perfect_0 rfl (lv_at hl 1 rfl) ?_
  refine lv_if_lt (tgt := 10) hx hb dX8_perfect_1 (by decide) (fun c1 => ?_) (fun c1 => ?_)
  · have h := ite_t c1 h
    exact n10 (σ.1 2373) (σ.1 2372) (σ.1 2371) (σ.1 1286) (σ.1 1283) (σ.1 1285) (σ.1 1284) (σ.2.2.1 38) (σ.2.2.1 39) (σ.2.2.1 40) (σ.2.2.1 22) (σ.2.2.1 23) (σ.2.2.1 21) _ _ _ (lv_sub hl [] rfl) hG h
  · have h := ite_f c1 h
    refine lv_iload_n hx hb dX8_perfect_4 rfl (lv_at hl 1 rfl) ?_
    refine lv_bipush (v := (6 : Int32)) hx hb dX8_perfect_5 (by decide) ?_
    refine lv_icmp_le (tgt := 12) hx hb dX8_perfect_7 (by decide) (fun c2 => ?_) (fun c2 => ?_)
    · have h := ite_t c2 h
      refine lv_aload_n hx hb dX8_perfect_12 rfl (lv_at hl 0 rfl) ?_
      refine gx_get (v := .ref (g.2.1 10)) (C := RX8) (T := TX8) (N := 13) hx hb hts mc_X8 hown hK hG (ga_0 g _) rfl 1 (by decide) hw2 rfl rfl dX8_perfect_13 ?_
      refine gx_get (v := .int (σ.1 641)) (C := RX2) (T := TX2) (N := 2) hx hb hts mc_X2 hown hK hG (ga_10 g _) rfl 1 (by decide) hw3 rfl rfl dX8_perfect_16 ?_
      refine lv_if_ne (tgt := 25) hx hb dX8_perfect_19 (by decide) (fun c3 => ?_) (fun c3 => ?_)
      · have h := ite_f c3 h
        refine lv_aload_n hx hb dX8_perfect_25 rfl (lv_at hl 0 rfl) ?_
        refine gx_get (v := .ref (g.2.1 37)) (C := RX8) (T := TX8) (N := 13) hx hb hts mc_X8 hown hK hG (ga_0 g _) rfl 10 (by decide) hw0 rfl rfl dX8_perfect_26 ?_
        refine gx_get (v := .int (σ.1 2372)) (C := RX4) (T := TX4) (N := 6) hx hb hts mc_X4 hown hK hG (ga_37 g _) rfl 4 (by decide) hw4 rfl rfl dX8_perfect_29 ?_
        refine lv_iload_n hx hb dX8_perfect_32 rfl (lv_at hl 1 rfl) ?_
        refine lv_icmp_eq (tgt := 59) hx hb dX8_perfect_33 (by decide) (fun c4 => ?_) (fun c4 => ?_)
        · have h := ite_t c4 h
          exact n59 (σ.1 2373) (σ.1 2372) (σ.1 2371) (σ.1 1286) (σ.1 1283) (σ.1 1285) (σ.1 1284) (σ.2.2.1 38) (σ.2.2.1 39) (σ.2.2.1 40) (σ.2.2.1 22) (σ.2.2.1 23) (σ.2.2.1 21) _ _ _ (lv_sub hl [0] rfl) hG h
        · have h := ite_f c4 h
          refine lv_aload_n hx hb dX8_perfect_36 rfl (lv_at hl 0 rfl) ?_
          obtain ⟨z5, hc6, h⟩ := bnd_some h
          refine gx_cV (σ' := (mkS σ [(2373, (σ.1 2373)), (2372, (σ.1 2372)), (2371, (σ.1 2371)), (1286, z5.1), (1283, z5.2.1), (1285, z5.2.2.1), (1284, z5.2.2.2.1)] [] [(38, (σ.2.2.1 38)), (39, (σ.2.2.1 39)), (40, (σ.2.2.1 40)), (22, z5.2.2.2.2.1), (23, z5.2.2.2.2.2.1), (21, z5.2.2.2.2.2.2)] [])) (r := none) (rest := []) (As := []) hS9 (c_LN_measure l g (mkS σ [(2373, (σ.1 2373)), (2372, (σ.1 2372)), (2371, (σ.1 2371)), (1286, (σ.1 1286)), (1283, (σ.1 1283)), (1285, (σ.1 1285)), (1284, (σ.1 1284))] [] [(38, (σ.2.2.1 38)), (39, (σ.2.2.1 39)), (40, (σ.2.2.1 40)), (22, (σ.2.2.1 22)), (23, (σ.2.2.1 23)), (21, (σ.2.2.1 21))] []) z5.1 z5.2.1 z5.2.2.1 z5.2.2.2.1 z5.2.2.2.2.1 z5.2.2.2.2.2.1 z5.2.2.2.2.2.2 hc6) (mk_mk rfl rfl rfl rfl) (cwV 0 hts (gz_V mw_3_5 mw_3_7 ms_1_6 mw_1_1 mw_3_8) rfl rfl rfl hdV_X8_measure ⟨Nat.le_of_ble_eq_true rfl, Nat.le_of_ble_eq_true rfl⟩) hK hG (ga_0 g _) rfl rfl rfl hl.1 rfl (Nat.le_of_ble_eq_true rfl) dX8_perfect_37 (fun H locs hG => ?_)
          refine W.eq (g2 := F0 m 40 ls []) rfl ?_
          refine lv_aload_n hx hb dX8_perfect_40 rfl (lv_at hl 0 rfl) ?_
          refine gx_get (v := .ref (g.2.1 37)) (C := RX8) (T := TX8) (N := 13) hx hb hts mc_X8 hown hK hG (ga_0 g _) rfl 10 (by decide) hw0 rfl rfl dX8_perfect_41 ?_
          refine lv_aload_n hx hb dX8_perfect_44 rfl (lv_at hl 0 rfl) ?_
          refine gx_get (v := .ref (g.2.1 20)) (C := RX8) (T := TX8) (N := 13) hx hb hts mc_X8 hown hK hG (ga_0 g _) rfl 7 (by decide) hw5 rfl rfl dX8_perfect_45 ?_
          refine lv_aload_n hx hb dX8_perfect_48 rfl (lv_at hl 0 rfl) ?_
          refine gx_get (v := .ref (g.2.1 10)) (C := RX8) (T := TX8) (N := 13) hx hb hts mc_X8 hown hK hG (ga_0 g _) rfl 1 (by decide) hw2 rfl rfl dX8_perfect_49 ?_
          refine gx_get (v := .int (σ.1 641)) (C := RX2) (T := TX2) (N := 2) hx hb hts mc_X2 hown hK hG (ga_10 g _) rfl 1 (by decide) hw3 rfl rfl dX8_perfect_52 ?_
          refine lv_iload_n hx hb dX8_perfect_55 rfl (lv_at hl 1 rfl) ?_
          obtain ⟨z7, hc8, h⟩ := bnd_some h
          refine gx_cV (σ' := (mkS σ [(2373, z7.1), (2372, z7.2.1), (2371, z7.2.2.1), (1286, z5.1), (1283, z5.2.1), (1285, z5.2.2.1), (1284, z5.2.2.2.1)] [] [(38, z7.2.2.2.1), (39, z7.2.2.2.2.1), (40, z7.2.2.2.2.2), (22, z5.2.2.2.2.1), (23, z5.2.2.2.2.2.1), (21, z5.2.2.2.2.2.2)] [])) (r := none) (rest := []) (As := [.ref (g.2.1 20), .int (σ.1 641), .int x1]) hS9 (c_Se_run l g (mkS σ [(2373, (σ.1 2373)), (2372, (σ.1 2372)), (2371, (σ.1 2371)), (1286, z5.1), (1283, z5.2.1), (1285, z5.2.2.1), (1284, z5.2.2.2.1)] [] [(38, (σ.2.2.1 38)), (39, (σ.2.2.1 39)), (40, (σ.2.2.1 40)), (22, z5.2.2.2.2.1), (23, z5.2.2.2.2.2.1), (21, z5.2.2.2.2.2.2)] []) (σ.1 641) x1 z7.1 z7.2.1 z7.2.2.1 z7.2.2.2.1 z7.2.2.2.2.1 z7.2.2.2.2.2 hc8) (mk_mk rfl rfl rfl rfl) (cwV 3 hts (gz_V mw_4_52 mw_4_53 mw_4_54 mw_1_9 mw_4_55) rfl rfl rfl hdV_X4_run ⟨Nat.le_of_ble_eq_true rfl, Nat.le_of_ble_eq_true rfl⟩) hK hG (ga_37 g _) rfl rfl rfl hl.1 rfl (Nat.le_of_ble_eq_true rfl) dX8_perfect_56 (fun H locs hG => ?_)
          refine W.eq (g2 := F0 m 59 ls []) rfl ?_
          exact n59 z7.1 z7.2.1 z7.2.2.1 z5.1 z5.2.1 z5.2.2.1 z5.2.2.2.1 z7.2.2.2.1 z7.2.2.2.2.1 z7.2.2.2.2.2 z5.2.2.2.2.1 z5.2.2.2.2.2.1 z5.2.2.2.2.2.2 _ _ _ (lv_sub hl [0] rfl) hG h
      · have h := ite_t c3 h
        refine lv_bipush (v := (-5 : Int32)) hx hb dX8_perfect_22 (by decide) ?_
        cases h
        exact gx_iret hx hb hr hlocks hG dX8_perfect_24
    · have h := ite_f c2 h
      exact n10 (σ.1 2373) (σ.1 2372) (σ.1 2371) (σ.1 1286) (σ.1 1283) (σ.1 1285) (σ.1 1284) (σ.2.2.1 38) (σ.2.2.1 39) (σ.2.2.1 40) (σ.2.2.1 22) (σ.2.2.1 23) (σ.2.2.1 21) _ _ _ (lv_sub hl [] rfl) hG h

set_option maxHeartbeats 4000000 in
set_option maxRecDepth 100000 in
theorem c_LN_heap (l : Launch) (g : GC) (σ : St) (x1 : Int32) (x2 : Int32) (r : Int32) (w_search_found : Int32) (w_search_reach : Int32) (w_search_size : Int32) (w_ways_far : Int32) (w_ways_ready : Int32) (w_ways_size : Int32) (w_ways_whole : Int32) (w_search_balls : Nat → Int32) (w_search_taken : Nat → Int32) (w_search_untried : Nat → Int32) (w_ways_layers : Nat → Int32) (w_ways_reached : Nat → Int32) (w_ways_steps : Nat → Int32) (h : LN_heap x1 x2 (σ.1 641) (σ.1 2373) (σ.1 2372) (σ.1 2371) (σ.1 1286) (σ.1 1283) (σ.1 1285) (σ.1 1284) (σ.2.2.1 11) (σ.2.2.1 38) (σ.2.2.1 39) (σ.2.2.1 40) (σ.2.2.1 22) (σ.2.2.1 23) (σ.2.2.1 21) = some (r, w_search_found, w_search_reach, w_search_size, w_ways_far, w_ways_ready, w_ways_size, w_ways_whole, w_search_balls, w_search_taken, w_search_untried, w_ways_layers, w_ways_reached, w_ways_steps)) : Cn l g yX8_heap (Cond.code yX8_heap cX8_heap 4 (some .int) :: wG) 6 135 [.ref (g.2.1 0), .int x1, .int x2] σ (some (.int r)) (mkS σ [(2373, w_search_found), (2372, w_search_reach), (2371, w_search_size), (1286, w_ways_far), (1283, w_ways_ready), (1285, w_ways_size), (1284, w_ways_whole)] [] [(38, w_search_balls), (39, w_search_taken), (40, w_search_untried), (22, w_ways_layers), (23, w_ways_reached), (21, w_ways_steps)] []) := by
  unfold Cn
  refine Met.ofW (cc := cX8_heap) (maxL := 4) (ret := (some .int)) (by decide) rfl ?_
  intro p e s m args below meth c s₁ B hml hv
  obtain ⟨hargs, hP0, hK⟩ := hv
  have hx := B.exec
  have hb := B.bytes
  have hr := B.returns
  have hts : ∀ w ∈ wG, w.before args s = true := fun w h => atoms_spec (ws := (Cond.code yX8_heap cX8_heap 4 (some .int) :: wG)) B.pre w (List.mem_cons_of_mem _ h)
  have hown : s.vm.findClass RX8 = some m.cls := findClass_of_methodNamed B.named
  have hlocks := B.notSynchronized
  have hS9 : CallFix p m c cX8_heap 4 s args wG RX8 := ⟨hx, hb, hml, hown, hts⟩
  have hw0 := hts _ mw_2_47
  have hw1 := hts _ mw_1_215
  have hf9 : entryFrame m args 4 = _ := (congrArg (fun a => entryFrame m a 4) hargs).trans (lg_entry_eq m [.ref (g.2.1 0), .int x1, .int x2] 4)
  show Wg p l e 6 135 s m args below meth c g (some (.int r)) (mkS σ [(2373, w_search_found), (2372, w_search_reach), (2371, w_search_size), (1286, w_ways_far), (1283, w_ways_ready), (1285, w_ways_size), (1284, w_ways_whole)] [] [(38, w_search_balls), (39, w_search_taken), (40, w_search_untried), (22, w_ways_layers), (23, w_ways_reached), (21, w_ways_steps)] []) s.heap [] (entryFrame m args 4)
  rw [hf9]
  have hl := lv_entry ([.ref (g.2.1 0), .int x1, .int x2]) (n := 4) (Nat.le_of_ble_eq_true rfl)
  generalize (lg_sl ([.ref (g.2.1 0), .int x1, .int x2]) ++ List.replicate (4 - (lg_sl ([.ref (g.2.1 0), .int x1, .int x2])).length) Slot.unset).toArray = ls at hl ⊢
  have hl : lv_has ls 4 [(0, .ref (g.2.1 0)), (1, .int x1), (2, .int x2)] := hl
  have hG : GW g s σ s.heap [] := ⟨hP0, va_S.rf⟩
  have hG : GW g s (mkS σ [(2373, (σ.1 2373)), (2372, (σ.1 2372)), (2371, (σ.1 2371)), (1286, (σ.1 1286)), (1283, (σ.1 1283)), (1285, (σ.1 1285)), (1284, (σ.1 1284))] [] [(38, (σ.2.2.1 38)), (39, (σ.2.2.1 39)), (40, (σ.2.2.1 40)), (22, (σ.2.2.1 22)), (23, (σ.2.2.1 23)), (21, (σ.2.2.1 21))] []) s.heap [] := GW_self [2373, 2372, 2371, 1286, 1283, 1285, 1284] [] [38, 39, 40, 22, 23, 21] [] hG
  unfold LN_heap at h
  have n35 : ∀ (t0 : Int32) (v_search_found : Int32) (v_search_reach : Int32) (v_search_size : Int32) (v_ways_far : Int32) (v_ways_ready : Int32) (v_ways_size : Int32) (v_ways_whole : Int32) (v_search_balls : Nat → Int32) (v_search_taken : Nat → Int32) (v_search_untried : Nat → Int32) (v_ways_layers : Nat → Int32) (v_ways_reached : Nat → Int32) (v_ways_steps : Nat → Int32) (H : Heap) (locs : List Loc) (ls : Array Slot), lv_has ls 4 [] → GW g s (mkS σ [(2373, v_search_found), (2372, v_search_reach), (2371, v_search_size), (1286, v_ways_far), (1283, v_ways_ready), (1285, v_ways_size), (1284, v_ways_whole)] [] [(38, v_search_balls), (39, v_search_taken), (40, v_search_untried), (22, v_ways_layers), (23, v_ways_reached), (21, v_ways_steps)] []) H locs → LN_heap_n35 t0 v_search_found v_search_reach v_search_size v_ways_far v_ways_ready v_ways_size v_ways_whole v_search_balls v_search_taken v_search_untried v_ways_layers v_ways_reached v_ways_steps = some (r, w_search_found, w_search_reach, w_search_size, w_ways_far, w_ways_ready, w_ways_size, w_ways_whole, w_search_balls, w_search_taken, w_search_untried, w_ways_layers, w_ways_reached, w_ways_steps) → Wg p l e 6 135 s m args below meth c g (some (.int r)) (mkS σ [(2373, w_search_found), (2372, w_search_reach), (2371, w_search_size), (1286, w_ways_far), (1283, w_ways_ready), (1285, w_ways_size), (1284, w_ways_whole)] [] [(38, w_search_balls), (39, w_search_taken), (40, w_search_untried), (22, w_ways_layers), (23, w_ways_reached), (21, w_ways_steps)] []) H locs (F0 m 35 ls [.int t0]) := by
    intro t0 v_search_found v_search_reach v_search_size v_ways_far v_ways_ready v_ways_size v_ways_whole v_search_balls v_search_taken v_search_untried v_ways_layers v_ways_reached v_ways_steps H locs ls hl hG h
    unfold LN_heap_n35 at h
    cases h
    exact gx_iret hx hb hr hlocks hG dX8_heap_35
  have n21 : ∀ (v_search_found : Int32) (v_search_reach : Int32) (v_search_size : Int32) (v_ways_far : Int32) (v_ways_ready : Int32) (v_ways_size : Int32) (v_ways_whole : Int32) (v_search_balls : Nat → Int32) (v_search_taken : Nat → Int32) (v_search_untried : Nat → Int32) (v_ways_layers : Nat → Int32) (v_ways_reached : Nat → Int32) (v_ways_steps : Nat → Int32) (H : Heap) (locs : List Loc) (ls : Array Slot), lv_has ls 4 [] → GW g s (mkS σ [(2373, v_search_found), (2372, v_search_reach), (2371, v_search_size), (1286, v_ways_far), (1283, v_ways_ready), (1285, v_ways_size), (1284, v_ways_whole)] [] [(38, v_search_balls), (39, v_search_taken), (40, v_search_untried), (22, v_ways_layers), (23, v_ways_reached), (21, v_ways_steps)] []) H locs → LN_heap_n21 v_search_found v_search_reach v_search_size v_ways_far v_ways_ready v_ways_size v_ways_whole v_search_balls v_search_taken v_search_untried v_ways_layers v_ways_reached v_ways_steps = some (r, w_search_found, w_search_reach, w_search_size, w_ways_far, w_ways_ready, w_ways_size, w_ways_whole, w_search_balls, w_search_taken, w_search_untried, w_ways_layers, w_ways_reached, w_ways_steps) → Wg p l e 6 135 s m args below meth c g (some (.int r)) (mkS σ [(2373, w_search_found), (2372, w_search_reach), (2371, w_search_size), (1286, w_ways_far), (1283, w_ways_ready), (1285, w_ways_size), (1284, w_ways_whole)] [] [(38, w_search_balls), (39, w_search_taken), (40, w_search_untried), (22, w_ways_layers), (23, w_ways_reached), (21, w_ways_steps)] []) H locs (F0 m 21 ls []) := by
    intro v_search_found v_search_reach v_search_size v_ways_far v_ways_ready v_ways_size v_ways_whole v_search_balls v_search_taken v_search_untried v_ways_layers v_ways_reached v_ways_steps H locs ls hl hG h
    unfold LN_heap_n21 at h
    refine lv_bipush (v := (-8 : Int32)) hx hb dX8_heap_21 (by decide) ?_
    refine lv_goto (tgt := 35) hx hb dX8_heap_23 (by decide) ?_
    exact n35 (-8 : Int32) v_search_found v_search_reach v_search_size v_ways_far v_ways_ready v_ways_size v_ways_whole v_search_balls v_search_taken v_search_untried v_ways_layers v_ways_reached v_ways_steps _ _ _ (lv_sub hl [] rfl) hG h
  refine lv_aload_n hx hb dX8_heap_0 rfl (lv_at hl 0 rfl) ?_
  refine lv_iload_n hx hb dX8_heap_1 rfl (lv_at hl 1 rfl) ?_
  obtain ⟨z1, hc2, h⟩ := bnd_some h
  refine gx_cV (σ' := (mkS σ [(2373, z1.2.1), (2372, z1.2.2.1), (2371, z1.2.2.2.1), (1286, z1.2.2.2.2.1), (1283, z1.2.2.2.2.2.1), (1285, z1.2.2.2.2.2.2.1), (1284, z1.2.2.2.2.2.2.2.1)] [] [(38, z1.2.2.2.2.2.2.2.2.1), (39, z1.2.2.2.2.2.2.2.2.2.1), (40, z1.2.2.2.2.2.2.2.2.2.2.1), (22, z1.2.2.2.2.2.2.2.2.2.2.2.1), (23, z1.2.2.2.2.2.2.2.2.2.2.2.2.1), (21, z1.2.2.2.2.2.2.2.2.2.2.2.2.2)] [])) (r := (some (.int z1.1))) (rest := []) (As := [.int x1]) hS9 (c_LN_perfect l g (mkS σ [(2373, (σ.1 2373)), (2372, (σ.1 2372)), (2371, (σ.1 2371)), (1286, (σ.1 1286)), (1283, (σ.1 1283)), (1285, (σ.1 1285)), (1284, (σ.1 1284))] [] [(38, (σ.2.2.1 38)), (39, (σ.2.2.1 39)), (40, (σ.2.2.1 40)), (22, (σ.2.2.1 22)), (23, (σ.2.2.1 23)), (21, (σ.2.2.1 21))] []) x1 z1.1 z1.2.1 z1.2.2.1 z1.2.2.2.1 z1.2.2.2.2.1 z1.2.2.2.2.2.1 z1.2.2.2.2.2.2.1 z1.2.2.2.2.2.2.2.1 z1.2.2.2.2.2.2.2.2.1 z1.2.2.2.2.2.2.2.2.2.1 z1.2.2.2.2.2.2.2.2.2.2.1 z1.2.2.2.2.2.2.2.2.2.2.2.1 z1.2.2.2.2.2.2.2.2.2.2.2.2.1 z1.2.2.2.2.2.2.2.2.2.2.2.2.2 hc2) (mk_mk rfl rfl rfl rfl) (cwV 1 hts (gz_V mw_4_76 mw_4_49 mw_4_50 mw_1_1 mw_4_51) rfl rfl rfl hdV_X8_perfect ⟨Nat.le_of_ble_eq_true rfl, Nat.le_of_ble_eq_true rfl⟩) hK hG (ga_0 g _) rfl rfl rfl hl.1 rfl (Nat.le_of_ble_eq_true rfl) dX8_heap_2 (fun H locs hG => ?_)
  refine W.eq (g2 := F0 m 5 ls [.int z1.1]) rfl ?_
  refine lv_istore_n (lv' := [(3, .int z1.1), (0, .ref (g.2.1 0)), (1, .int x1), (2, .int x2)]) hx hb dX8_heap_5 rfl hl (Nat.le_of_ble_eq_true rfl) rfl (fun ls hl => ?_)
  refine lv_iload_n hx hb dX8_heap_6 rfl (lv_at hl 0 rfl) ?_
  refine lv_if_ge (tgt := 12) hx hb dX8_heap_7 (by decide) (fun c3 => ?_) (fun c3 => ?_)
  · have h := ite_t c3 h
    refine lv_iload_n hx hb dX8_heap_12 rfl (lv_at hl 3 rfl) ?_
    refine lv_if_lt (tgt := 21) hx hb dX8_heap_13 (by decide) (fun c4 => ?_) (fun c4 => ?_)
    · have h := ite_t c4 h
      exact n21 z1.2.1 z1.2.2.1 z1.2.2.2.1 z1.2.2.2.2.1 z1.2.2.2.2.2.1 z1.2.2.2.2.2.2.1 z1.2.2.2.2.2.2.2.1 z1.2.2.2.2.2.2.2.2.1 z1.2.2.2.2.2.2.2.2.2.1 z1.2.2.2.2.2.2.2.2.2.2.1 z1.2.2.2.2.2.2.2.2.2.2.2.1 z1.2.2.2.2.2.2.2.2.2.2.2.2.1 z1.2.2.2.2.2.2.2.2.2.2.2.2.2 _ _ _ (lv_sub hl [] rfl) hG h
    · have h := ite_f c4 h
      refine lv_iload_n hx hb dX8_heap_16 rfl (lv_at hl 3 rfl) ?_
      refine lv_iload_n hx hb dX8_heap_17 rfl (lv_at hl 0 rfl) ?_
      refine lv_icmp_lt (tgt := 26) hx hb dX8_heap_18 (by decide) (fun c5 => ?_) (fun c5 => ?_)
      · have h := ite_t c5 h
        refine lv_aload_n hx hb dX8_heap_26 rfl (lv_at hl 1 rfl) ?_
        refine gx_get (v := .ref (g.2.1 37)) (C := RX8) (T := TX8) (N := 13) hx hb hts mc_X8 hown hK hG (ga_0 g _) rfl 10 (by decide) hw0 rfl rfl dX8_heap_27 ?_
        refine gx_get (v := .ref (g.2.1 39)) (C := RX4) (T := TX4) (N := 6) hx hb hts mc_X4 hown hK hG (ga_37 g _) rfl 1 (by decide) hw1 rfl rfl dX8_heap_30 ?_
        refine lv_iload_n hx hb dX8_heap_33 rfl (lv_at hl 3 rfl) ?_
        obtain ⟨hg6, h⟩ := gd_some h
        refine gx_iald (f := z1.2.2.2.2.2.2.2.2.2.1) hx hb hK hG (ga_39 g _) hg6 dX8_heap_34 ?_
        exact n35 (z1.2.2.2.2.2.2.2.2.2.1 (x2.toNatClampNeg)) z1.2.1 z1.2.2.1 z1.2.2.2.1 z1.2.2.2.2.1 z1.2.2.2.2.2.1 z1.2.2.2.2.2.2.1 z1.2.2.2.2.2.2.2.1 z1.2.2.2.2.2.2.2.2.1 z1.2.2.2.2.2.2.2.2.2.1 z1.2.2.2.2.2.2.2.2.2.2.1 z1.2.2.2.2.2.2.2.2.2.2.2.1 z1.2.2.2.2.2.2.2.2.2.2.2.2.1 z1.2.2.2.2.2.2.2.2.2.2.2.2.2 _ _ _ (lv_sub hl [] rfl) hG h
      · have h := ite_f c5 h
        exact n21 z1.2.1 z1.2.2.1 z1.2.2.2.1 z1.2.2.2.2.1 z1.2.2.2.2.2.1 z1.2.2.2.2.2.2.1 z1.2.2.2.2.2.2.2.1 z1.2.2.2.2.2.2.2.2.1 z1.2.2.2.2.2.2.2.2.2.1 z1.2.2.2.2.2.2.2.2.2.2.1 z1.2.2.2.2.2.2.2.2.2.2.2.1 z1.2.2.2.2.2.2.2.2.2.2.2.2.1 z1.2.2.2.2.2.2.2.2.2.2.2.2.2 _ _ _ (lv_sub hl [] rfl) hG h
  · have h := ite_f c3 h
    refine lv_iload_n hx hb dX8_heap_10 rfl (lv_at hl 0 rfl) ?_
    cases h
    exact gx_iret hx hb hr hlocks hG dX8_heap_11

set_option maxHeartbeats 4000000 in
set_option maxRecDepth 100000 in
theorem c_Net_has_10 (l : Launch) (g : GC) (σ : St) (x1 : Int32) (r : Int32) (h : Net_has x1 (σ.1 641) = some r) : Cn l g yX2_has (Cond.code yX2_has cX2_has 2 (some .boolean) :: wG) 0 0 [.ref (g.2.1 10), .int x1] σ (some (.int r)) σ := by
  unfold Cn
  refine Met.ofW (cc := cX2_has) (maxL := 2) (ret := (some .boolean)) (by decide) rfl ?_
  intro p e s m args below meth c s₁ B hml hv
  obtain ⟨hargs, hP0, hK⟩ := hv
  have hx := B.exec
  have hb := B.bytes
  have hr := B.returns
  have hts : ∀ w ∈ wG, w.before args s = true := fun w h => atoms_spec (ws := (Cond.code yX2_has cX2_has 2 (some .boolean) :: wG)) B.pre w (List.mem_cons_of_mem _ h)
  have hown : s.vm.findClass RX2 = some m.cls := findClass_of_methodNamed B.named
  have hlocks := B.notSynchronized
  have hw0 := hts _ mw_1_56
  have hf9 : entryFrame m args 2 = _ := (congrArg (fun a => entryFrame m a 2) hargs).trans (lg_entry_eq m [.ref (g.2.1 10), .int x1] 2)
  show Wg p l e 0 0 s m args below meth c g (some (.int r)) σ s.heap [] (entryFrame m args 2)
  rw [hf9]
  have hl := lv_entry ([.ref (g.2.1 10), .int x1]) (n := 2) (Nat.le_of_ble_eq_true rfl)
  generalize (lg_sl ([.ref (g.2.1 10), .int x1]) ++ List.replicate (2 - (lg_sl ([.ref (g.2.1 10), .int x1])).length) Slot.unset).toArray = ls at hl ⊢
  have hl : lv_has ls 2 [(0, .ref (g.2.1 10)), (1, .int x1)] := hl
  have hG : GW g s σ s.heap [] := ⟨hP0, va_S.rf⟩
  unfold Net_has at h
  have n17 : ∀ (t0 : Int32) (H : Heap) (locs : List Loc) (ls : Array Slot), lv_has ls 2 [] → GW g s σ H locs → Net_has_n17 t0 = some r → Wg p l e 0 0 s m args below meth c g (some (.int r)) σ H locs (F0 m 17 ls [.int t0]) := by
    intro t0 H locs ls hl hG h
    unfold Net_has_n17 at h
    obtain ⟨hg1, h⟩ := gd_some h
    cases h
    exact gx_zret hx hb hr hlocks hg1 hG dX2_has_17
  have n16 : ∀  (H : Heap) (locs : List Loc) (ls : Array Slot), lv_has ls 2 [] → GW g s σ H locs → Net_has_n16 = some r → Wg p l e 0 0 s m args below meth c g (some (.int r)) σ H locs (F0 m 16 ls []) := by
    intro H locs ls hl hG h
    unfold Net_has_n16 at h
    refine lv_iconst (v := (0 : Int32)) hx hb dX2_has_16 (by decide) ?_
    exact n17 (0 : Int32) _ _ _ (lv_sub hl [] rfl) hG h
  refine lv_iload_n hx hb dX2_has_0 rfl (lv_at hl 1 rfl) ?_
  refine lv_if_lt (tgt := 16) hx hb dX2_has_1 (by decide) (fun c2 => ?_) (fun c2 => ?_)
  · have h := ite_t c2 h
    exact n16 _ _ _ (lv_sub hl [] rfl) hG h
  · have h := ite_f c2 h
    refine lv_iload_n hx hb dX2_has_4 rfl (lv_at hl 1 rfl) ?_
    refine lv_aload_n hx hb dX2_has_5 rfl (lv_at hl 0 rfl) ?_
    refine gx_get (v := .int (σ.1 641)) (C := RX2) (T := TX2) (N := 2) hx hb hts mc_X2 hown hK hG (ga_10 g _) rfl 1 (by decide) hw0 rfl rfl dX2_has_6 ?_
    refine lv_icmp_ge (tgt := 16) hx hb dX2_has_9 (by decide) (fun c3 => ?_) (fun c3 => ?_)
    · have h := ite_t c3 h
      exact n16 _ _ _ (lv_sub hl [] rfl) hG h
    · have h := ite_f c3 h
      refine lv_iconst (v := (1 : Int32)) hx hb dX2_has_12 (by decide) ?_
      refine lv_goto (tgt := 17) hx hb dX2_has_13 (by decide) ?_
      exact n17 (1 : Int32) _ _ _ (lv_sub hl [] rfl) hG h

set_option maxHeartbeats 4000000 in
set_option maxRecDepth 100000 in
theorem c_Net_areJoined_10 (l : Launch) (g : GC) (σ : St) (x1 : Int32) (x2 : Int32) (r : Int32) (h : Net_areJoined x1 x2 (σ.1 641) (σ.2.2.1 11) = some r) : Cn l g yX2_areJoined (Cond.code yX2_areJoined cX2_areJoined 3 (some .boolean) :: wG) 1 21 [.ref (g.2.1 10), .int x1, .int x2] σ (some (.int r)) σ := by
  unfold Cn
  refine Met.ofW (cc := cX2_areJoined) (maxL := 3) (ret := (some .boolean)) (by decide) rfl ?_
  intro p e s m args below meth c s₁ B hml hv
  obtain ⟨hargs, hP0, hK⟩ := hv
  have hx := B.exec
  have hb := B.bytes
  have hr := B.returns
  have hts : ∀ w ∈ wG, w.before args s = true := fun w h => atoms_spec (ws := (Cond.code yX2_areJoined cX2_areJoined 3 (some .boolean) :: wG)) B.pre w (List.mem_cons_of_mem _ h)
  have hown : s.vm.findClass RX2 = some m.cls := findClass_of_methodNamed B.named
  have hlocks := B.notSynchronized
  have hS9 : CallFix p m c cX2_areJoined 3 s args wG RX2 := ⟨hx, hb, hml, hown, hts⟩
  have hw0 := hts _ mw_1_53
  have hw1 := hts _ mw_1_1
  have hw2 := hts _ mw_2_135
  have hf9 : entryFrame m args 3 = _ := (congrArg (fun a => entryFrame m a 3) hargs).trans (lg_entry_eq m [.ref (g.2.1 10), .int x1, .int x2] 3)
  show Wg p l e 1 21 s m args below meth c g (some (.int r)) σ s.heap [] (entryFrame m args 3)
  rw [hf9]
  have hl := lv_entry ([.ref (g.2.1 10), .int x1, .int x2]) (n := 3) (Nat.le_of_ble_eq_true rfl)
  generalize (lg_sl ([.ref (g.2.1 10), .int x1, .int x2]) ++ List.replicate (3 - (lg_sl ([.ref (g.2.1 10), .int x1, .int x2])).length) Slot.unset).toArray = ls at hl ⊢
  have hl : lv_has ls 3 [(0, .ref (g.2.1 10)), (1, .int x1), (2, .int x2)] := hl
  have hG : GW g s σ s.heap [] := ⟨hP0, va_S.rf⟩
  unfold Net_areJoined at h
  have n34 : ∀ (t0 : Int32) (H : Heap) (locs : List Loc) (ls : Array Slot), lv_has ls 3 [] → GW g s σ H locs → Net_areJoined_n34 t0 = some r → Wg p l e 1 21 s m args below meth c g (some (.int r)) σ H locs (F0 m 34 ls [.int t0]) := by
    intro t0 H locs ls hl hG h
    unfold Net_areJoined_n34 at h
    obtain ⟨hg1, h⟩ := gd_some h
    cases h
    exact gx_zret hx hb hr hlocks hg1 hG dX2_areJoined_34
  have n33 : ∀  (H : Heap) (locs : List Loc) (ls : Array Slot), lv_has ls 3 [] → GW g s σ H locs → Net_areJoined_n33 = some r → Wg p l e 1 21 s m args below meth c g (some (.int r)) σ H locs (F0 m 33 ls []) := by
    intro H locs ls hl hG h
    unfold Net_areJoined_n33 at h
    refine lv_iconst (v := (0 : Int32)) hx hb dX2_areJoined_33 (by decide) ?_
    exact n34 (0 : Int32) _ _ _ (lv_sub hl [] rfl) hG h
  refine lv_aload_n hx hb dX2_areJoined_0 rfl (lv_at hl 0 rfl) ?_
  refine lv_iload_n hx hb dX2_areJoined_1 rfl (lv_at hl 1 rfl) ?_
  obtain ⟨z2, hc3, h⟩ := bnd_some h
  refine gx_cV (σ' := σ) (r := (some (.int z2))) (rest := []) (As := [.int x1]) hS9 (c_Net_has_10 l g σ x1 z2 hc3) rfl (cwV 1 hts (gz_V mw_2_126 mw_2_127 mw_2_128 mw_1_3 mw_2_129) rfl rfl rfl hdV_X2_has ⟨Nat.le_of_ble_eq_true rfl, Nat.le_of_ble_eq_true rfl⟩) hK hG (ga_10 g _) rfl rfl rfl hl.1 rfl (Nat.le_of_ble_eq_true rfl) dX2_areJoined_2 (fun H locs hG => ?_)
  refine W.eq (g2 := F0 m 5 ls [.int z2]) rfl ?_
  refine lv_if_eq (tgt := 33) hx hb dX2_areJoined_5 (by decide) (fun c4 => ?_) (fun c4 => ?_)
  · have h := ite_t c4 h
    exact n33 _ _ _ (lv_sub hl [] rfl) hG h
  · have h := ite_f c4 h
    refine lv_aload_n hx hb dX2_areJoined_8 rfl (lv_at hl 0 rfl) ?_
    refine lv_iload_n hx hb dX2_areJoined_9 rfl (lv_at hl 2 rfl) ?_
    obtain ⟨z5, hc6, h⟩ := bnd_some h
    refine gx_cV (σ' := σ) (r := (some (.int z5))) (rest := []) (As := [.int x2]) hS9 (c_Net_has_10 l g σ x2 z5 hc6) rfl (cwV 1 hts (gz_V mw_2_126 mw_2_127 mw_2_128 mw_1_3 mw_2_129) rfl rfl rfl hdV_X2_has ⟨Nat.le_of_ble_eq_true rfl, Nat.le_of_ble_eq_true rfl⟩) hK hG (ga_10 g _) rfl rfl rfl hl.1 rfl (Nat.le_of_ble_eq_true rfl) dX2_areJoined_10 (fun H locs hG => ?_)
    refine W.eq (g2 := F0 m 13 ls [.int z5]) rfl ?_
    refine lv_if_eq (tgt := 33) hx hb dX2_areJoined_13 (by decide) (fun c7 => ?_) (fun c7 => ?_)
    · have h := ite_t c7 h
      exact n33 _ _ _ (lv_sub hl [] rfl) hG h
    · have h := ite_f c7 h
      refine lv_aload_n hx hb dX2_areJoined_16 rfl (lv_at hl 0 rfl) ?_
      refine gx_get (v := .ref (g.2.1 11)) (C := RX2) (T := TX2) (N := 2) hx hb hts mc_X2 hown hK hG (ga_10 g _) rfl 0 (by decide) hw0 rfl rfl dX2_areJoined_17 ?_
      refine lv_iload_n hx hb dX2_areJoined_20 rfl (lv_at hl 1 rfl) ?_
      obtain ⟨hg8, h⟩ := gd_some h
      refine gx_iald (f := (σ.2.2.1 11)) hx hb hK hG (ga_11 g _) hg8 dX2_areJoined_21 ?_
      refine lv_iload_n hx hb dX2_areJoined_22 rfl (lv_at hl 2 rfl) ?_
      obtain ⟨z9, hc10, h⟩ := bnd_some h
      refine gx_cN (σ' := σ) (r := (some (.int z9))) (rest := []) (As := [.int ((σ.2.2.1 11) (x1.toNatClampNeg)), .int x2]) hS9 (c_LN_isIn l g σ ((σ.2.2.1 11) (x1.toNatClampNeg)) x2 z9 hc10) rfl (va_cnB 2 hts (gz_N mw_2_136) rfl rfl rfl (hK.2.2 _ (List.mem_of_getElem? (i := 0) rfl)) hw1 hdS_X8_isIn ⟨Nat.le_of_ble_eq_true rfl, Nat.le_of_ble_eq_true rfl⟩) hw2 hK hG rfl hl.1 rfl (Nat.le_of_ble_eq_true rfl) dX2_areJoined_23 (fun H locs hG => ?_)
      refine W.eq (g2 := F0 m 26 ls [.int z9]) rfl ?_
      refine lv_if_eq (tgt := 33) hx hb dX2_areJoined_26 (by decide) (fun c11 => ?_) (fun c11 => ?_)
      · have h := ite_t c11 h
        exact n33 _ _ _ (lv_sub hl [] rfl) hG h
      · have h := ite_f c11 h
        refine lv_iconst (v := (1 : Int32)) hx hb dX2_areJoined_29 (by decide) ?_
        refine lv_goto (tgt := 34) hx hb dX2_areJoined_30 (by decide) ?_
        exact n34 (1 : Int32) _ _ _ (lv_sub hl [] rfl) hG h

set_option maxHeartbeats 4000000 in
set_option maxRecDepth 100000 in
theorem c_LN_joined (l : Launch) (g : GC) (σ : St) (x1 : Int32) (x2 : Int32) (r : Int32) (h : LN_joined x1 x2 (σ.1 641) (σ.2.2.1 11) = some r) : Cn l g yX8_joined (Cond.code yX8_joined cX8_joined 3 (some .boolean) :: wG) 2 43 [.ref (g.2.1 0), .int x1, .int x2] σ (some (.int r)) σ := by
  unfold Cn
  refine Met.ofW (cc := cX8_joined) (maxL := 3) (ret := (some .boolean)) (by decide) rfl ?_
  intro p e s m args below meth c s₁ B hml hv
  obtain ⟨hargs, hP0, hK⟩ := hv
  have hx := B.exec
  have hb := B.bytes
  have hr := B.returns
  have hts : ∀ w ∈ wG, w.before args s = true := fun w h => atoms_spec (ws := (Cond.code yX8_joined cX8_joined 3 (some .boolean) :: wG)) B.pre w (List.mem_cons_of_mem _ h)
  have hown : s.vm.findClass RX8 = some m.cls := findClass_of_methodNamed B.named
  have hlocks := B.notSynchronized
  have hS9 : CallFix p m c cX8_joined 3 s args wG RX8 := ⟨hx, hb, hml, hown, hts⟩
  have hw0 := hts _ mw_2_38
  have hf9 : entryFrame m args 3 = _ := (congrArg (fun a => entryFrame m a 3) hargs).trans (lg_entry_eq m [.ref (g.2.1 0), .int x1, .int x2] 3)
  show Wg p l e 2 43 s m args below meth c g (some (.int r)) σ s.heap [] (entryFrame m args 3)
  rw [hf9]
  have hl := lv_entry ([.ref (g.2.1 0), .int x1, .int x2]) (n := 3) (Nat.le_of_ble_eq_true rfl)
  generalize (lg_sl ([.ref (g.2.1 0), .int x1, .int x2]) ++ List.replicate (3 - (lg_sl ([.ref (g.2.1 0), .int x1, .int x2])).length) Slot.unset).toArray = ls at hl ⊢
  have hl : lv_has ls 3 [(0, .ref (g.2.1 0)), (1, .int x1), (2, .int x2)] := hl
  have hG : GW g s σ s.heap [] := ⟨hP0, va_S.rf⟩
  unfold LN_joined at h
  refine lv_aload_n hx hb dX8_joined_0 rfl (lv_at hl 0 rfl) ?_
  refine gx_get (v := .ref (g.2.1 10)) (C := RX8) (T := TX8) (N := 13) hx hb hts mc_X8 hown hK hG (ga_0 g _) rfl 1 (by decide) hw0 rfl rfl dX8_joined_1 ?_
  refine lv_iload_n hx hb dX8_joined_4 rfl (lv_at hl 1 rfl) ?_
  refine lv_iload_n hx hb dX8_joined_5 rfl (lv_at hl 2 rfl) ?_
  obtain ⟨z1, hc2, h⟩ := bnd_some h
  refine gx_cV (σ' := σ) (r := (some (.int z1))) (rest := []) (As := [.int x1, .int x2]) hS9 (c_Net_areJoined_10 l g σ x1 x2 z1 hc2) rfl (cwV 2 hts (gz_V mw_2_130 mw_2_131 mw_2_132 mw_1_3 mw_2_133) rfl rfl rfl hdV_X2_areJoined ⟨Nat.le_of_ble_eq_true rfl, Nat.le_of_ble_eq_true rfl⟩) hK hG (ga_10 g _) rfl rfl rfl hl.1 rfl (Nat.le_of_ble_eq_true rfl) dX8_joined_6 (fun H locs hG => ?_)
  refine W.eq (g2 := F0 m 9 ls [.int z1]) rfl ?_
  obtain ⟨hg3, h⟩ := gd_some h
  cases h
  exact gx_zret hx hb hr hlocks hg3 hG dX8_joined_9

set_option maxHeartbeats 4000000 in
set_option maxRecDepth 100000 in
theorem c_Net_copyFrom_14_10 (l : Launch) (g : GC) (σ : St) (w_size : Int32) (w_near : Nat → Int32) (h : Net_copyFrom (σ.1 641) (σ.1 897) (σ.2.2.1 15) (σ.2.2.1 11) = some (w_size, w_near)) : Cn l g yX2_copyFrom (Cond.code yX2_copyFrom cX2_copyFrom 2 none :: wG) 1 60 [.ref (g.2.1 14), .ref (g.2.1 10)] σ none (mkS σ [(897, w_size)] [] [(15, w_near)] []) := by
  unfold Cn
  refine Met.ofW (cc := cX2_copyFrom) (maxL := 2) (ret := none) (by decide) rfl ?_
  intro p e s m args below meth c s₁ B hml hv
  obtain ⟨hargs, hP0, hK⟩ := hv
  have hx := B.exec
  have hb := B.bytes
  have hr := B.returns
  have hts : ∀ w ∈ wG, w.before args s = true := fun w h => atoms_spec (ws := (Cond.code yX2_copyFrom cX2_copyFrom 2 none :: wG)) B.pre w (List.mem_cons_of_mem _ h)
  have hown : s.vm.findClass RX2 = some m.cls := findClass_of_methodNamed B.named
  have hlocks := B.notSynchronized
  have hw0 := hts _ mw_1_56
  have hw1 := hts _ mw_1_53
  have hw2 := hts _ mw_2_237
  have hw3 := hts _ mw_2_239
  have hw4 := hts _ mw_2_238
  have hw5 := hts _ mw_1_14
  have hf9 : entryFrame m args 2 = _ := (congrArg (fun a => entryFrame m a 2) hargs).trans (lg_entry_eq m [.ref (g.2.1 14), .ref (g.2.1 10)] 2)
  show Wg p l e 1 60 s m args below meth c g none (mkS σ [(897, w_size)] [] [(15, w_near)] []) s.heap [] (entryFrame m args 2)
  rw [hf9]
  have hl := lv_entry ([.ref (g.2.1 14), .ref (g.2.1 10)]) (n := 2) (Nat.le_of_ble_eq_true rfl)
  generalize (lg_sl ([.ref (g.2.1 14), .ref (g.2.1 10)]) ++ List.replicate (2 - (lg_sl ([.ref (g.2.1 14), .ref (g.2.1 10)])).length) Slot.unset).toArray = ls at hl ⊢
  have hl : lv_has ls 2 [(0, .ref (g.2.1 14)), (1, .ref (g.2.1 10))] := hl
  have hG : GW g s σ s.heap [] := ⟨hP0, va_S.rf⟩
  have hG : GW g s (mkS σ [(897, (σ.1 897))] [] [(15, (σ.2.2.1 15))] []) s.heap [] := GW_self [897] [] [15] [] hG
  unfold Net_copyFrom at h
  refine lv_aload_n hx hb dX2_copyFrom_0 rfl (lv_at hl 0 rfl) ?_
  refine lv_aload_n hx hb dX2_copyFrom_1 rfl (lv_at hl 1 rfl) ?_
  refine gx_get (v := .int (σ.1 641)) (C := RX2) (T := TX2) (N := 2) hx hb hts mc_X2 hown hK hG (ga_10 g _) rfl 1 (by decide) hw0 rfl rfl dX2_copyFrom_2 ?_
  refine gx_put (σ' := (mkS σ [(897, (σ.1 641))] [] [(15, (σ.2.2.1 15))] [])) (C := RX2) (T := TX2) (N := 2) hx hb hts mc_X2 tyX2 tyX2_ok nmX2 hown hK hG (ga_14 g _) rfl 1 (by decide) hw0 rfl rfl rfl rfl (Nat.le_of_ble_eq_true rfl) ((gf_897 g _ _).trans (congrArg (g_cells g) (mk_a 0 rfl rfl))) dX2_copyFrom_5 (fun H locs hG => ?_)
  refine lv_aload_n hx hb dX2_copyFrom_8 rfl (lv_at hl 1 rfl) ?_
  refine gx_get (v := .ref (g.2.1 11)) (C := RX2) (T := TX2) (N := 2) hx hb hts mc_X2 hown hK hG (ga_10 g _) rfl 0 (by decide) hw1 rfl rfl dX2_copyFrom_9 ?_
  refine lv_iconst (v := (0 : Int32)) hx hb dX2_copyFrom_12 (by decide) ?_
  refine lv_aload_n hx hb dX2_copyFrom_13 rfl (lv_at hl 0 rfl) ?_
  refine gx_get (v := .ref (g.2.1 15)) (C := RX2) (T := TX2) (N := 2) hx hb hts mc_X2 hown hK hG (ga_14 g _) rfl 0 (by decide) hw1 rfl rfl dX2_copyFrom_14 ?_
  refine lv_iconst (v := (0 : Int32)) hx hb dX2_copyFrom_17 (by decide) ?_
  refine lv_bipush (v := (32 : Int32)) hx hb dX2_copyFrom_18 (by decide) ?_
  refine gx_copyi (σ' := (mkS σ [(897, (σ.1 641))] [] [(15, (va_cpy (σ.2.2.1 11) (σ.2.2.1 15) ((0 : Int32).toNatClampNeg) ((0 : Int32).toNatClampNeg) ((32 : Int32).toNatClampNeg)))] [])) (f := (σ.2.2.1 11)) (f1 := (σ.2.2.1 15)) hx hb (by rw [hml]; exact hl.1.symm) hown hw2 hw3 hw4 hw5 hK hG (ga_11 g _) (ga_15 g _) (by decide) (by decide) (by decide) (by decide) (by decide) (Nat.le_of_ble_eq_true rfl) (Nat.le_of_ble_eq_true rfl) ((gs_15 g _ _).trans (congrArg (g_cells g) (mk_c 0 rfl rfl))) dX2_copyFrom_20 (fun H locs hG => ?_)
  cases h
  exact gx_vret hx hb hr hlocks hG dX2_copyFrom_23

set_option maxHeartbeats 4000000 in
set_option maxRecDepth 100000 in
theorem c_LN_keep (l : Launch) (g : GC) (σ : St) (r : Int32) (w_isStored : Int32) (w_stored_size : Int32) (w_stored_near : Nat → Int32) (h : LN_keep (σ.1 12) (σ.1 641) (σ.1 897) (σ.2.2.1 11) (σ.2.2.1 15) = some (r, w_isStored, w_stored_size, w_stored_near)) : Cn l g yX8_keep (Cond.code yX8_keep cX8_keep 1 (some .int) :: wG) 2 81 [.ref (g.2.1 0)] σ (some (.int r)) (mkS σ [(12, w_isStored), (897, w_stored_size)] [] [(15, w_stored_near)] []) := by
  unfold Cn
  refine Met.ofW (cc := cX8_keep) (maxL := 1) (ret := (some .int)) (by decide) rfl ?_
  intro p e s m args below meth c s₁ B hml hv
  obtain ⟨hargs, hP0, hK⟩ := hv
  have hx := B.exec
  have hb := B.bytes
  have hr := B.returns
  have hts : ∀ w ∈ wG, w.before args s = true := fun w h => atoms_spec (ws := (Cond.code yX8_keep cX8_keep 1 (some .int) :: wG)) B.pre w (List.mem_cons_of_mem _ h)
  have hown : s.vm.findClass RX8 = some m.cls := findClass_of_methodNamed B.named
  have hlocks := B.notSynchronized
  have hS9 : CallFix p m c cX8_keep 1 s args wG RX8 := ⟨hx, hb, hml, hown, hts⟩
  have hw0 := hts _ mw_2_40
  have hw1 := hts _ mw_2_38
  have hw2 := hts _ mw_2_49
  have hf9 : entryFrame m args 1 = _ := (congrArg (fun a => entryFrame m a 1) hargs).trans (lg_entry_eq m [.ref (g.2.1 0)] 1)
  show Wg p l e 2 81 s m args below meth c g (some (.int r)) (mkS σ [(12, w_isStored), (897, w_stored_size)] [] [(15, w_stored_near)] []) s.heap [] (entryFrame m args 1)
  rw [hf9]
  have hl := lv_entry ([.ref (g.2.1 0)]) (n := 1) (Nat.le_of_ble_eq_true rfl)
  generalize (lg_sl ([.ref (g.2.1 0)]) ++ List.replicate (1 - (lg_sl ([.ref (g.2.1 0)])).length) Slot.unset).toArray = ls at hl ⊢
  have hl : lv_has ls 1 [(0, .ref (g.2.1 0))] := hl
  have hG : GW g s σ s.heap [] := ⟨hP0, va_S.rf⟩
  have hG : GW g s (mkS σ [(12, (σ.1 12)), (897, (σ.1 897))] [] [(15, (σ.2.2.1 15))] []) s.heap [] := GW_self [12, 897] [] [15] [] hG
  unfold LN_keep at h
  refine lv_aload_n hx hb dX8_keep_0 rfl (lv_at hl 0 rfl) ?_
  refine gx_get (v := .ref (g.2.1 14)) (C := RX8) (T := TX8) (N := 13) hx hb hts mc_X8 hown hK hG (ga_0 g _) rfl 3 (by decide) hw0 rfl rfl dX8_keep_1 ?_
  refine lv_aload_n hx hb dX8_keep_4 rfl (lv_at hl 0 rfl) ?_
  refine gx_get (v := .ref (g.2.1 10)) (C := RX8) (T := TX8) (N := 13) hx hb hts mc_X8 hown hK hG (ga_0 g _) rfl 1 (by decide) hw1 rfl rfl dX8_keep_5 ?_
  obtain ⟨z1, hc2, h⟩ := bnd_some h
  refine gx_cV (σ' := (mkS σ [(12, (σ.1 12)), (897, z1.1)] [] [(15, z1.2)] [])) (r := none) (rest := []) (As := [.ref (g.2.1 10)]) hS9 (c_Net_copyFrom_14_10 l g (mkS σ [(12, (σ.1 12)), (897, (σ.1 897))] [] [(15, (σ.2.2.1 15))] []) z1.1 z1.2 hc2) (mk_mk rfl rfl rfl rfl) (cwV 1 hts (gz_V mw_2_233 mw_2_234 mw_2_235 mw_1_3 mw_2_236) rfl rfl rfl hdV_X2_copyFrom ⟨Nat.le_of_ble_eq_true rfl, Nat.le_of_ble_eq_true rfl⟩) hK hG (ga_14 g _) rfl rfl rfl hl.1 rfl (Nat.le_of_ble_eq_true rfl) dX8_keep_8 (fun H locs hG => ?_)
  refine W.eq (g2 := F0 m 11 ls []) rfl ?_
  refine lv_aload_n hx hb dX8_keep_11 rfl (lv_at hl 0 rfl) ?_
  refine lv_iconst (v := (1 : Int32)) hx hb dX8_keep_12 (by decide) ?_
  refine gx_put (σ' := (mkS σ [(12, (1 : Int32)), (897, z1.1)] [] [(15, z1.2)] [])) (C := RX8) (T := TX8) (N := 13) hx hb hts mc_X8 tyX8 tyX8_ok nmX8 hown hK hG (ga_0 g _) rfl 12 (by decide) hw2 rfl rfl (isb_n (by decide)) (isb_f (by decide)) (Nat.le_of_ble_eq_true rfl) ((gf_12 g _ _).trans (congrArg (g_cells g) (mk_a 0 rfl rfl))) dX8_keep_13 (fun H locs hG => ?_)
  refine lv_iconst (v := (1 : Int32)) hx hb dX8_keep_16 (by decide) ?_
  cases h
  exact gx_iret hx hb hr hlocks hG dX8_keep_17

set_option maxHeartbeats 4000000 in
set_option maxRecDepth 100000 in
theorem c_Pr_begin (l : Launch) (g : GC) (σ : St) (w_count : Int32) (w_sorts : Nat → Int32) (h : Pr_begin (σ.1 2634) (σ.1 641) (σ.1 2633) (σ.2.2.1 11) (σ.2.2.1 42) = some (w_count, w_sorts)) : Cn l g yX3_begin (Cond.code yX3_begin cX3_begin 8 none :: wG) 2 43 [.ref (g.2.1 41), .ref (g.2.1 10)] σ none (mkS σ [(2634, w_count)] [] [(42, w_sorts)] []) := by
  unfold Cn
  refine Met.ofW (cc := cX3_begin) (maxL := 8) (ret := none) (by decide) rfl ?_
  intro p e s m args below meth c s₁ B hml hv
  obtain ⟨hargs, hP0, hK⟩ := hv
  have hx := B.exec
  have hb := B.bytes
  have hr := B.returns
  have hts : ∀ w ∈ wG, w.before args s = true := fun w h => atoms_spec (ws := (Cond.code yX3_begin cX3_begin 8 none :: wG)) B.pre w (List.mem_cons_of_mem _ h)
  have hown : s.vm.findClass RX3 = some m.cls := findClass_of_methodNamed B.named
  have hlocks := B.notSynchronized
  have hS9 : CallFix p m c cX3_begin 8 s args wG RX3 := ⟨hx, hb, hml, hown, hts⟩
  have hw0 := hts _ mw_2_1
  have hw1 := hts _ mw_2_11
  have hw2 := hts _ mw_2_12
  have hf9 : entryFrame m args 8 = _ := (congrArg (fun a => entryFrame m a 8) hargs).trans (lg_entry_eq m [.ref (g.2.1 41), .ref (g.2.1 10)] 8)
  show Wg p l e 2 43 s m args below meth c g none (mkS σ [(2634, w_count)] [] [(42, w_sorts)] []) s.heap [] (entryFrame m args 8)
  rw [hf9]
  have hl := lv_entry ([.ref (g.2.1 41), .ref (g.2.1 10)]) (n := 8) (Nat.le_of_ble_eq_true rfl)
  generalize (lg_sl ([.ref (g.2.1 41), .ref (g.2.1 10)]) ++ List.replicate (8 - (lg_sl ([.ref (g.2.1 41), .ref (g.2.1 10)])).length) Slot.unset).toArray = ls at hl ⊢
  have hl : lv_has ls 8 [(0, .ref (g.2.1 41)), (1, .ref (g.2.1 10))] := hl
  have hG : GW g s σ s.heap [] := ⟨hP0, va_S.rf⟩
  have hG : GW g s (mkS σ [(2634, (σ.1 2634))] [] [(42, (σ.2.2.1 42))] []) s.heap [] := GW_self [2634] [] [42] [] hG
  unfold Pr_begin at h
  have n158 : ∀ (k27 : Int32 → Int32 → Int32 → Int32 → Int32 → Int32 → (Nat → Int32) → Option (Int32 × (Nat → Int32))) (hk27 : ∀ (x2 : Int32) (x3 : Int32) (x4 : Int32) (x5 : Int32) (x6 : Int32) (v_count : Int32) (v_sorts : Nat → Int32) (H : Heap) (locs : List Loc) (ls : Array Slot), lv_has ls 8 [(0, .ref (g.2.1 41)), (1, .ref (g.2.1 10)), (2, .int x2), (3, .int x3), (4, .int x4), (5, .int x5), (6, .int x6)] → GW g s (mkS σ [(2634, v_count)] [] [(42, v_sorts)] []) H locs → k27 x2 x3 x4 x5 x6 v_count v_sorts = some (w_count, w_sorts) → Wg p l e 2 43 s m args below meth c g none (mkS σ [(2634, w_count)] [] [(42, w_sorts)] []) H locs (F0 m 27 ls [])) (x2 : Int32) (x3 : Int32) (x4 : Int32) (x5 : Int32) (x6 : Int32) (v_count : Int32) (v_sorts : Nat → Int32) (H : Heap) (locs : List Loc) (ls : Array Slot), lv_has ls 8 [(0, .ref (g.2.1 41)), (1, .ref (g.2.1 10)), (2, .int x2), (3, .int x3), (4, .int x4), (5, .int x5), (6, .int x6)] → GW g s (mkS σ [(2634, v_count)] [] [(42, v_sorts)] []) H locs → Pr_begin_n158 k27 x2 x3 x4 x5 x6 v_count v_sorts = some (w_count, w_sorts) → Wg p l e 2 43 s m args below meth c g none (mkS σ [(2634, w_count)] [] [(42, w_sorts)] []) H locs (F0 m 158 ls []) := by
    intro k27 hk27 x2 x3 x4 x5 x6 v_count v_sorts H locs ls hl hG h
    unfold Pr_begin_n158 at h
    refine lv_iinc (v := (x6 + (1 : Int32))) (lv' := [(6, .int (x6 + (1 : Int32))), (0, .ref (g.2.1 41)), (1, .ref (g.2.1 10)), (2, .int x2), (3, .int x3), (4, .int x4), (5, .int x5)]) hx hb dX3_begin_158 hl (k := 6) rfl (congrArg (fun z => x6 + z) (by decide)) (Nat.le_of_ble_eq_true rfl) rfl (fun ls hl => ?_)
    refine lv_goto (tgt := 27) hx hb dX3_begin_161 (by decide) ?_
    exact hk27 x2 x3 x4 x5 (x6 + (1 : Int32)) v_count v_sorts _ _ _ (lv_sub hl [1, 2, 3, 4, 5, 6, 0] rfl) hG h
  have n72 : ∀ (k27 : Int32 → Int32 → Int32 → Int32 → Int32 → Int32 → (Nat → Int32) → Option (Int32 × (Nat → Int32))) (hk27 : ∀ (x2 : Int32) (x3 : Int32) (x4 : Int32) (x5 : Int32) (x6 : Int32) (v_count : Int32) (v_sorts : Nat → Int32) (H : Heap) (locs : List Loc) (ls : Array Slot), lv_has ls 8 [(0, .ref (g.2.1 41)), (1, .ref (g.2.1 10)), (2, .int x2), (3, .int x3), (4, .int x4), (5, .int x5), (6, .int x6)] → GW g s (mkS σ [(2634, v_count)] [] [(42, v_sorts)] []) H locs → k27 x2 x3 x4 x5 x6 v_count v_sorts = some (w_count, w_sorts) → Wg p l e 2 43 s m args below meth c g none (mkS σ [(2634, w_count)] [] [(42, w_sorts)] []) H locs (F0 m 27 ls [])) (x3 : Int32) (x4 : Int32) (x5 : Int32) (x6 : Int32) (x7 : Int32) (t0 : Int32) (v_count : Int32) (v_sorts : Nat → Int32) (H : Heap) (locs : List Loc) (ls : Array Slot), lv_has ls 8 [(0, .ref (g.2.1 41)), (1, .ref (g.2.1 10)), (3, .int x3), (4, .int x4), (5, .int x5), (6, .int x6), (7, .int x7)] → GW g s (mkS σ [(2634, v_count)] [] [(42, v_sorts)] []) H locs → Pr_begin_n72 k27 x3 x4 x5 x6 x7 t0 v_count v_sorts = some (w_count, w_sorts) → Wg p l e 2 43 s m args below meth c g none (mkS σ [(2634, w_count)] [] [(42, w_sorts)] []) H locs (F0 m 72 ls [.int t0]) := by
    intro k27 hk27 x3 x4 x5 x6 x7 t0 v_count v_sorts H locs ls hl hG h
    unfold Pr_begin_n72 at h
    refine lv_istore_n (lv' := [(2, .int t0), (0, .ref (g.2.1 41)), (1, .ref (g.2.1 10)), (3, .int x3), (4, .int x4), (5, .int x5), (6, .int x6), (7, .int x7)]) hx hb dX3_begin_72 rfl hl (Nat.le_of_ble_eq_true rfl) rfl (fun ls hl => ?_)
    refine lv_aload_n hx hb dX3_begin_73 rfl (lv_at hl 1 rfl) ?_
    refine gx_get (v := .ref (g.2.1 42)) (C := RX3) (T := TX3) (N := 11) hx hb hts mc_X3 hown hK hG (ga_41 g _) rfl 0 (by decide) hw0 rfl rfl dX3_begin_74 ?_
    refine lv_iload hx hb dX3_begin_77 (lv_at hl 7 rfl) ?_
    refine lv_iload_n hx hb dX3_begin_79 rfl (lv_at hl 0 rfl) ?_
    obtain ⟨hg1, h⟩ := gd_some h
    refine gx_iast (σ' := (mkS σ [(2634, v_count)] [] [(42, (upd v_sorts (x7.toNatClampNeg) t0))] [])) (f := v_sorts) hx hb hK hG (ga_42 g _) hg1 ((gs_42 g _ _).trans (congrArg (g_cells g) (mk_c 0 rfl rfl))) dX3_begin_80 (fun H locs hG => ?_)
    refine lv_goto (tgt := 158) hx hb dX3_begin_81 (by decide) ?_
    exact n158 k27 hk27 t0 x3 x4 x5 x6 v_count (upd v_sorts (x7.toNatClampNeg) t0) _ _ _ (lv_sub hl [1, 2, 0, 3, 4, 5, 6] rfl) hG h
  have n114 : ∀ (k27 : Int32 → Int32 → Int32 → Int32 → Int32 → Int32 → (Nat → Int32) → Option (Int32 × (Nat → Int32))) (hk27 : ∀ (x2 : Int32) (x3 : Int32) (x4 : Int32) (x5 : Int32) (x6 : Int32) (v_count : Int32) (v_sorts : Nat → Int32) (H : Heap) (locs : List Loc) (ls : Array Slot), lv_has ls 8 [(0, .ref (g.2.1 41)), (1, .ref (g.2.1 10)), (2, .int x2), (3, .int x3), (4, .int x4), (5, .int x5), (6, .int x6)] → GW g s (mkS σ [(2634, v_count)] [] [(42, v_sorts)] []) H locs → k27 x2 x3 x4 x5 x6 v_count v_sorts = some (w_count, w_sorts) → Wg p l e 2 43 s m args below meth c g none (mkS σ [(2634, w_count)] [] [(42, w_sorts)] []) H locs (F0 m 27 ls [])) (x2 : Int32) (x4 : Int32) (x5 : Int32) (x6 : Int32) (x7 : Int32) (t0 : Int32) (v_count : Int32) (v_sorts : Nat → Int32) (H : Heap) (locs : List Loc) (ls : Array Slot), lv_has ls 8 [(0, .ref (g.2.1 41)), (1, .ref (g.2.1 10)), (2, .int x2), (4, .int x4), (5, .int x5), (6, .int x6), (7, .int x7)] → GW g s (mkS σ [(2634, v_count)] [] [(42, v_sorts)] []) H locs → Pr_begin_n114 k27 x2 x4 x5 x6 x7 t0 v_count v_sorts = some (w_count, w_sorts) → Wg p l e 2 43 s m args below meth c g none (mkS σ [(2634, w_count)] [] [(42, w_sorts)] []) H locs (F0 m 114 ls [.int t0]) := by
    intro k27 hk27 x2 x4 x5 x6 x7 t0 v_count v_sorts H locs ls hl hG h
    unfold Pr_begin_n114 at h
    refine lv_istore_n (lv' := [(3, .int t0), (0, .ref (g.2.1 41)), (1, .ref (g.2.1 10)), (2, .int x2), (4, .int x4), (5, .int x5), (6, .int x6), (7, .int x7)]) hx hb dX3_begin_114 rfl hl (Nat.le_of_ble_eq_true rfl) rfl (fun ls hl => ?_)
    refine lv_aload_n hx hb dX3_begin_115 rfl (lv_at hl 1 rfl) ?_
    refine gx_get (v := .ref (g.2.1 42)) (C := RX3) (T := TX3) (N := 11) hx hb hts mc_X3 hown hK hG (ga_41 g _) rfl 0 (by decide) hw0 rfl rfl dX3_begin_116 ?_
    refine lv_iload hx hb dX3_begin_119 (lv_at hl 7 rfl) ?_
    refine lv_iload_n hx hb dX3_begin_121 rfl (lv_at hl 0 rfl) ?_
    obtain ⟨hg2, h⟩ := gd_some h
    refine gx_iast (σ' := (mkS σ [(2634, v_count)] [] [(42, (upd v_sorts (x7.toNatClampNeg) t0))] [])) (f := v_sorts) hx hb hK hG (ga_42 g _) hg2 ((gs_42 g _ _).trans (congrArg (g_cells g) (mk_c 0 rfl rfl))) dX3_begin_122 (fun H locs hG => ?_)
    refine lv_goto (tgt := 158) hx hb dX3_begin_123 (by decide) ?_
    exact n158 k27 hk27 x2 t0 x4 x5 x6 v_count (upd v_sorts (x7.toNatClampNeg) t0) _ _ _ (lv_sub hl [1, 2, 3, 0, 4, 5, 6] rfl) hG h
  have n147 : ∀ (k27 : Int32 → Int32 → Int32 → Int32 → Int32 → Int32 → (Nat → Int32) → Option (Int32 × (Nat → Int32))) (hk27 : ∀ (x2 : Int32) (x3 : Int32) (x4 : Int32) (x5 : Int32) (x6 : Int32) (v_count : Int32) (v_sorts : Nat → Int32) (H : Heap) (locs : List Loc) (ls : Array Slot), lv_has ls 8 [(0, .ref (g.2.1 41)), (1, .ref (g.2.1 10)), (2, .int x2), (3, .int x3), (4, .int x4), (5, .int x5), (6, .int x6)] → GW g s (mkS σ [(2634, v_count)] [] [(42, v_sorts)] []) H locs → k27 x2 x3 x4 x5 x6 v_count v_sorts = some (w_count, w_sorts) → Wg p l e 2 43 s m args below meth c g none (mkS σ [(2634, w_count)] [] [(42, w_sorts)] []) H locs (F0 m 27 ls [])) (x2 : Int32) (x3 : Int32) (x5 : Int32) (x6 : Int32) (x7 : Int32) (t0 : Int32) (v_count : Int32) (v_sorts : Nat → Int32) (H : Heap) (locs : List Loc) (ls : Array Slot), lv_has ls 8 [(0, .ref (g.2.1 41)), (1, .ref (g.2.1 10)), (2, .int x2), (3, .int x3), (5, .int x5), (6, .int x6), (7, .int x7)] → GW g s (mkS σ [(2634, v_count)] [] [(42, v_sorts)] []) H locs → Pr_begin_n147 k27 x2 x3 x5 x6 x7 t0 v_count v_sorts = some (w_count, w_sorts) → Wg p l e 2 43 s m args below meth c g none (mkS σ [(2634, w_count)] [] [(42, w_sorts)] []) H locs (F0 m 147 ls [.int t0]) := by
    intro k27 hk27 x2 x3 x5 x6 x7 t0 v_count v_sorts H locs ls hl hG h
    unfold Pr_begin_n147 at h
    refine lv_istore (lv' := [(4, .int t0), (0, .ref (g.2.1 41)), (1, .ref (g.2.1 10)), (2, .int x2), (3, .int x3), (5, .int x5), (6, .int x6), (7, .int x7)]) hx hb dX3_begin_147 hl (Nat.le_of_ble_eq_true rfl) rfl (fun ls hl => ?_)
    refine lv_aload_n hx hb dX3_begin_149 rfl (lv_at hl 1 rfl) ?_
    refine gx_get (v := .ref (g.2.1 42)) (C := RX3) (T := TX3) (N := 11) hx hb hts mc_X3 hown hK hG (ga_41 g _) rfl 0 (by decide) hw0 rfl rfl dX3_begin_150 ?_
    refine lv_iload hx hb dX3_begin_153 (lv_at hl 7 rfl) ?_
    refine lv_iload hx hb dX3_begin_155 (lv_at hl 0 rfl) ?_
    obtain ⟨hg3, h⟩ := gd_some h
    refine gx_iast (σ' := (mkS σ [(2634, v_count)] [] [(42, (upd v_sorts (x7.toNatClampNeg) t0))] [])) (f := v_sorts) hx hb hK hG (ga_42 g _) hg3 ((gs_42 g _ _).trans (congrArg (g_cells g) (mk_c 0 rfl rfl))) dX3_begin_157 (fun H locs hG => ?_)
    exact n158 k27 hk27 x2 x3 t0 x5 x6 v_count (upd v_sorts (x7.toNatClampNeg) t0) _ _ _ (lv_sub hl [1, 2, 3, 4, 0, 5, 6] rfl) hG h
  have n164 : ∀ (k15 : Int32 → Int32 → Int32 → Int32 → Int32 → (Nat → Int32) → Option (Int32 × (Nat → Int32))) (hk15 : ∀ (x2 : Int32) (x3 : Int32) (x4 : Int32) (x5 : Int32) (v_count : Int32) (v_sorts : Nat → Int32) (H : Heap) (locs : List Loc) (ls : Array Slot), lv_has ls 8 [(0, .ref (g.2.1 41)), (1, .ref (g.2.1 10)), (2, .int x2), (3, .int x3), (4, .int x4), (5, .int x5)] → GW g s (mkS σ [(2634, v_count)] [] [(42, v_sorts)] []) H locs → k15 x2 x3 x4 x5 v_count v_sorts = some (w_count, w_sorts) → Wg p l e 2 43 s m args below meth c g none (mkS σ [(2634, w_count)] [] [(42, w_sorts)] []) H locs (F0 m 15 ls [])) (x2 : Int32) (x3 : Int32) (x4 : Int32) (x5 : Int32) (v_count : Int32) (v_sorts : Nat → Int32) (H : Heap) (locs : List Loc) (ls : Array Slot), lv_has ls 8 [(0, .ref (g.2.1 41)), (1, .ref (g.2.1 10)), (2, .int x2), (3, .int x3), (4, .int x4), (5, .int x5)] → GW g s (mkS σ [(2634, v_count)] [] [(42, v_sorts)] []) H locs → Pr_begin_n164 k15 x2 x3 x4 x5 v_count v_sorts = some (w_count, w_sorts) → Wg p l e 2 43 s m args below meth c g none (mkS σ [(2634, w_count)] [] [(42, w_sorts)] []) H locs (F0 m 164 ls []) := by
    intro k15 hk15 x2 x3 x4 x5 v_count v_sorts H locs ls hl hG h
    unfold Pr_begin_n164 at h
    refine lv_iinc (v := (x5 + (1 : Int32))) (lv' := [(5, .int (x5 + (1 : Int32))), (0, .ref (g.2.1 41)), (1, .ref (g.2.1 10)), (2, .int x2), (3, .int x3), (4, .int x4)]) hx hb dX3_begin_164 hl (k := 5) rfl (congrArg (fun z => x5 + z) (by decide)) (Nat.le_of_ble_eq_true rfl) rfl (fun ls hl => ?_)
    refine lv_goto (tgt := 15) hx hb dX3_begin_167 (by decide) ?_
    exact hk15 x2 x3 x4 (x5 + (1 : Int32)) v_count v_sorts _ _ _ (lv_sub hl [1, 2, 3, 4, 5, 0] rfl) hG h
  have n27 : ∀ (k15 : Int32 → Int32 → Int32 → Int32 → Int32 → (Nat → Int32) → Option (Int32 × (Nat → Int32))) (hk15 : ∀ (x2 : Int32) (x3 : Int32) (x4 : Int32) (x5 : Int32) (v_count : Int32) (v_sorts : Nat → Int32) (H : Heap) (locs : List Loc) (ls : Array Slot), lv_has ls 8 [(0, .ref (g.2.1 41)), (1, .ref (g.2.1 10)), (2, .int x2), (3, .int x3), (4, .int x4), (5, .int x5)] → GW g s (mkS σ [(2634, v_count)] [] [(42, v_sorts)] []) H locs → k15 x2 x3 x4 x5 v_count v_sorts = some (w_count, w_sorts) → Wg p l e 2 43 s m args below meth c g none (mkS σ [(2634, w_count)] [] [(42, w_sorts)] []) H locs (F0 m 15 ls [])) (k27 : Int32 → Int32 → Int32 → Int32 → Int32 → Int32 → (Nat → Int32) → Option (Int32 × (Nat → Int32))) (hk27 : ∀ (x2 : Int32) (x3 : Int32) (x4 : Int32) (x5 : Int32) (x6 : Int32) (v_count : Int32) (v_sorts : Nat → Int32) (H : Heap) (locs : List Loc) (ls : Array Slot), lv_has ls 8 [(0, .ref (g.2.1 41)), (1, .ref (g.2.1 10)), (2, .int x2), (3, .int x3), (4, .int x4), (5, .int x5), (6, .int x6)] → GW g s (mkS σ [(2634, v_count)] [] [(42, v_sorts)] []) H locs → k27 x2 x3 x4 x5 x6 v_count v_sorts = some (w_count, w_sorts) → Wg p l e 2 43 s m args below meth c g none (mkS σ [(2634, w_count)] [] [(42, w_sorts)] []) H locs (F0 m 27 ls [])) (x2 : Int32) (x3 : Int32) (x4 : Int32) (x5 : Int32) (x6 : Int32) (v_count : Int32) (v_sorts : Nat → Int32) (H : Heap) (locs : List Loc) (ls : Array Slot), lv_has ls 8 [(0, .ref (g.2.1 41)), (1, .ref (g.2.1 10)), (2, .int x2), (3, .int x3), (4, .int x4), (5, .int x5), (6, .int x6)] → GW g s (mkS σ [(2634, v_count)] [] [(42, v_sorts)] []) H locs → Pr_begin_n27 k15 k27 (σ.1 641) (σ.1 2633) (σ.2.2.1 11) x2 x3 x4 x5 x6 v_count v_sorts = some (w_count, w_sorts) → Wg p l e 2 43 s m args below meth c g none (mkS σ [(2634, w_count)] [] [(42, w_sorts)] []) H locs (F0 m 27 ls []) := by
    intro k15 hk15 k27 hk27 x2 x3 x4 x5 x6 v_count v_sorts H locs ls hl hG h
    unfold Pr_begin_n27 at h
    refine lv_iload hx hb dX3_begin_27 (lv_at hl 6 rfl) ?_
    refine lv_aload_n hx hb dX3_begin_29 rfl (lv_at hl 0 rfl) ?_
    refine gx_get (v := .int (σ.1 2633)) (C := RX3) (T := TX3) (N := 11) hx hb hts mc_X3 hown hK hG (ga_41 g _) rfl 9 (by decide) hw1 rfl rfl dX3_begin_30 ?_
    refine lv_icmp_ge (tgt := 164) hx hb dX3_begin_33 (by decide) (fun c4 => ?_) (fun c4 => ?_)
    · have h := ite_t c4 h
      exact n164 k15 hk15 x2 x3 x4 x5 v_count v_sorts _ _ _ (lv_sub hl [0, 1, 2, 3, 4, 5] rfl) hG h
    · have h := ite_f c4 h
      refine lv_iload hx hb dX3_begin_36 (lv_at hl 5 rfl) ?_
      refine lv_bipush (v := (32 : Int32)) hx hb dX3_begin_38 (by decide) ?_
      refine lv_imul hx hb dX3_begin_40 ?_
      refine lv_iload hx hb dX3_begin_41 (lv_at hl 6 rfl) ?_
      refine lv_iadd hx hb dX3_begin_43 ?_
      refine lv_istore (lv' := [(7, .int ((x5 * (32 : Int32)) + x6)), (0, .ref (g.2.1 41)), (1, .ref (g.2.1 10)), (2, .int x2), (3, .int x3), (4, .int x4), (5, .int x5), (6, .int x6)]) hx hb dX3_begin_44 hl (Nat.le_of_ble_eq_true rfl) rfl (fun ls hl => ?_)
      refine lv_iload hx hb dX3_begin_46 (lv_at hl 6 rfl) ?_
      refine lv_iload hx hb dX3_begin_48 (lv_at hl 7 rfl) ?_
      refine lv_icmp_ne (tgt := 84) hx hb dX3_begin_50 (by decide) (fun c5 => ?_) (fun c5 => ?_)
      · have h := ite_f c5 h
        refine lv_aload_n hx hb dX3_begin_84 rfl (lv_at hl 2 rfl) ?_
        refine lv_iload hx hb dX3_begin_85 (lv_at hl 6 rfl) ?_
        refine lv_iload hx hb dX3_begin_87 (lv_at hl 7 rfl) ?_
        obtain ⟨z6, hc7, h⟩ := bnd_some h
        refine gx_cV (σ' := (mkS σ [(2634, v_count)] [] [(42, v_sorts)] [])) (r := (some (.int z6))) (rest := []) (As := [.int x5, .int x6]) hS9 (c_Net_areJoined_10 l g (mkS σ [(2634, v_count)] [] [(42, v_sorts)] []) x5 x6 z6 hc7) rfl (cwV 2 hts (gz_V mw_4_89 mw_2_131 mw_2_132 mw_1_3 mw_2_133) rfl rfl rfl hdV_X2_areJoined ⟨Nat.le_of_ble_eq_true rfl, Nat.le_of_ble_eq_true rfl⟩) hK hG (ga_10 g _) rfl rfl rfl hl.1 rfl (Nat.le_of_ble_eq_true rfl) dX3_begin_89 (fun H locs hG => ?_)
        refine W.eq (g2 := F0 m 92 ls [.int z6]) rfl ?_
        refine lv_if_eq (tgt := 126) hx hb dX3_begin_92 (by decide) (fun c8 => ?_) (fun c8 => ?_)
        · have h := ite_t c8 h
          refine lv_iload hx hb dX3_begin_126 (lv_at hl 5 rfl) ?_
          refine lv_if_ge (tgt := 145) hx hb dX3_begin_128 (by decide) (fun c9 => ?_) (fun c9 => ?_)
          · have h := ite_t c9 h
            refine lv_iload hx hb dX3_begin_145 (lv_at hl 5 rfl) ?_
            exact n147 k27 hk27 x2 x3 x5 x6 ((x5 * (32 : Int32)) + x6) x4 v_count v_sorts _ _ _ (lv_sub hl [1, 2, 3, 4, 6, 7, 0] rfl) hG h
          · have h := ite_f c9 h
            refine lv_aload_n hx hb dX3_begin_131 rfl (lv_at hl 1 rfl) ?_
            refine lv_dup hx hb dX3_begin_132 rfl ?_
            refine gx_get (v := .int v_count) (C := RX3) (T := TX3) (N := 11) hx hb hts mc_X3 hown hK hG (ga_41 g _) rfl 10 (by decide) hw2 rfl rfl dX3_begin_133 ?_
            refine lv_dup_x1 hx hb dX3_begin_136 rfl rfl ?_
            refine lv_iconst (v := (1 : Int32)) hx hb dX3_begin_137 (by decide) ?_
            refine lv_iadd hx hb dX3_begin_138 ?_
            refine gx_put (σ' := (mkS σ [(2634, (v_count + (1 : Int32)))] [] [(42, v_sorts)] [])) (C := RX3) (T := TX3) (N := 11) hx hb hts mc_X3 tyX3 tyX3_ok nmX3 hown hK hG (ga_41 g _) rfl 10 (by decide) hw2 rfl rfl rfl rfl (Nat.le_of_ble_eq_true rfl) ((gf_2634 g _ _).trans (congrArg (g_cells g) (mk_a 0 rfl rfl))) dX3_begin_139 (fun H locs hG => ?_)
            refine lv_goto (tgt := 147) hx hb dX3_begin_142 (by decide) ?_
            exact n147 k27 hk27 x2 x3 x5 x6 ((x5 * (32 : Int32)) + x6) v_count (v_count + (1 : Int32)) v_sorts _ _ _ (lv_sub hl [1, 2, 3, 4, 6, 7, 0] rfl) hG h
        · have h := ite_f c8 h
          refine lv_iload_n hx hb dX3_begin_95 rfl (lv_at hl 4 rfl) ?_
          refine lv_if_ge (tgt := 113) hx hb dX3_begin_96 (by decide) (fun c10 => ?_) (fun c10 => ?_)
          · have h := ite_t c10 h
            refine lv_iload_n hx hb dX3_begin_113 rfl (lv_at hl 4 rfl) ?_
            exact n114 k27 hk27 x2 x4 x5 x6 ((x5 * (32 : Int32)) + x6) x3 v_count v_sorts _ _ _ (lv_sub hl [1, 2, 3, 5, 6, 7, 0] rfl) hG h
          · have h := ite_f c10 h
            refine lv_aload_n hx hb dX3_begin_99 rfl (lv_at hl 1 rfl) ?_
            refine lv_dup hx hb dX3_begin_100 rfl ?_
            refine gx_get (v := .int v_count) (C := RX3) (T := TX3) (N := 11) hx hb hts mc_X3 hown hK hG (ga_41 g _) rfl 10 (by decide) hw2 rfl rfl dX3_begin_101 ?_
            refine lv_dup_x1 hx hb dX3_begin_104 rfl rfl ?_
            refine lv_iconst (v := (1 : Int32)) hx hb dX3_begin_105 (by decide) ?_
            refine lv_iadd hx hb dX3_begin_106 ?_
            refine gx_put (σ' := (mkS σ [(2634, (v_count + (1 : Int32)))] [] [(42, v_sorts)] [])) (C := RX3) (T := TX3) (N := 11) hx hb hts mc_X3 tyX3 tyX3_ok nmX3 hown hK hG (ga_41 g _) rfl 10 (by decide) hw2 rfl rfl rfl rfl (Nat.le_of_ble_eq_true rfl) ((gf_2634 g _ _).trans (congrArg (g_cells g) (mk_a 0 rfl rfl))) dX3_begin_107 (fun H locs hG => ?_)
            refine lv_goto (tgt := 114) hx hb dX3_begin_110 (by decide) ?_
            exact n114 k27 hk27 x2 x4 x5 x6 ((x5 * (32 : Int32)) + x6) v_count (v_count + (1 : Int32)) v_sorts _ _ _ (lv_sub hl [1, 2, 3, 5, 6, 7, 0] rfl) hG h
      · have h := ite_t c5 h
        refine lv_iload_n hx hb dX3_begin_53 rfl (lv_at hl 3 rfl) ?_
        refine lv_if_ge (tgt := 71) hx hb dX3_begin_54 (by decide) (fun c11 => ?_) (fun c11 => ?_)
        · have h := ite_t c11 h
          refine lv_iload_n hx hb dX3_begin_71 rfl (lv_at hl 3 rfl) ?_
          exact n72 k27 hk27 x3 x4 x5 x6 ((x5 * (32 : Int32)) + x6) x2 v_count v_sorts _ _ _ (lv_sub hl [1, 2, 4, 5, 6, 7, 0] rfl) hG h
        · have h := ite_f c11 h
          refine lv_aload_n hx hb dX3_begin_57 rfl (lv_at hl 1 rfl) ?_
          refine lv_dup hx hb dX3_begin_58 rfl ?_
          refine gx_get (v := .int v_count) (C := RX3) (T := TX3) (N := 11) hx hb hts mc_X3 hown hK hG (ga_41 g _) rfl 10 (by decide) hw2 rfl rfl dX3_begin_59 ?_
          refine lv_dup_x1 hx hb dX3_begin_62 rfl rfl ?_
          refine lv_iconst (v := (1 : Int32)) hx hb dX3_begin_63 (by decide) ?_
          refine lv_iadd hx hb dX3_begin_64 ?_
          refine gx_put (σ' := (mkS σ [(2634, (v_count + (1 : Int32)))] [] [(42, v_sorts)] [])) (C := RX3) (T := TX3) (N := 11) hx hb hts mc_X3 tyX3 tyX3_ok nmX3 hown hK hG (ga_41 g _) rfl 10 (by decide) hw2 rfl rfl rfl rfl (Nat.le_of_ble_eq_true rfl) ((gf_2634 g _ _).trans (congrArg (g_cells g) (mk_a 0 rfl rfl))) dX3_begin_65 (fun H locs hG => ?_)
          refine lv_goto (tgt := 72) hx hb dX3_begin_68 (by decide) ?_
          exact n72 k27 hk27 x3 x4 x5 x6 ((x5 * (32 : Int32)) + x6) v_count (v_count + (1 : Int32)) v_sorts _ _ _ (lv_sub hl [1, 2, 4, 5, 6, 7, 0] rfl) hG h
  have l27 : ∀ (k15 : Int32 → Int32 → Int32 → Int32 → Int32 → (Nat → Int32) → Option (Int32 × (Nat → Int32))) (hk15 : ∀ (x2 : Int32) (x3 : Int32) (x4 : Int32) (x5 : Int32) (v_count : Int32) (v_sorts : Nat → Int32) (H : Heap) (locs : List Loc) (ls : Array Slot), lv_has ls 8 [(0, .ref (g.2.1 41)), (1, .ref (g.2.1 10)), (2, .int x2), (3, .int x3), (4, .int x4), (5, .int x5)] → GW g s (mkS σ [(2634, v_count)] [] [(42, v_sorts)] []) H locs → k15 x2 x3 x4 x5 v_count v_sorts = some (w_count, w_sorts) → Wg p l e 2 43 s m args below meth c g none (mkS σ [(2634, w_count)] [] [(42, w_sorts)] []) H locs (F0 m 15 ls [])) (F : Nat) (x2 : Int32) (x3 : Int32) (x4 : Int32) (x5 : Int32) (x6 : Int32) (v_count : Int32) (v_sorts : Nat → Int32) (H : Heap) (locs : List Loc) (ls : Array Slot), lv_has ls 8 [(0, .ref (g.2.1 41)), (1, .ref (g.2.1 10)), (2, .int x2), (3, .int x3), (4, .int x4), (5, .int x5), (6, .int x6)] → GW g s (mkS σ [(2634, v_count)] [] [(42, v_sorts)] []) H locs → Pr_begin_l27 k15 (σ.1 641) (σ.1 2633) (σ.2.2.1 11) F x2 x3 x4 x5 x6 v_count v_sorts = some (w_count, w_sorts) → Wg p l e 2 43 s m args below meth c g none (mkS σ [(2634, w_count)] [] [(42, w_sorts)] []) H locs (F0 m 27 ls []) := by
    intro k15 hk15 F
    induction F with
    | zero => intro x2 x3 x4 x5 x6 v_count v_sorts H locs ls hl hG h; exact no_some h
    | succ F ih => intro x2 x3 x4 x5 x6 v_count v_sorts H locs ls hl hG h; exact n27 k15 hk15 (fun x2 x3 x4 x5 x6 v_count v_sorts => Pr_begin_l27 k15 (σ.1 641) (σ.1 2633) (σ.2.2.1 11) F x2 x3 x4 x5 x6 v_count v_sorts) ih x2 x3 x4 x5 x6 v_count v_sorts H locs ls hl hG h
  have n170 : ∀ (v_count : Int32) (v_sorts : Nat → Int32) (H : Heap) (locs : List Loc) (ls : Array Slot), lv_has ls 8 [] → GW g s (mkS σ [(2634, v_count)] [] [(42, v_sorts)] []) H locs → Pr_begin_n170 v_count v_sorts = some (w_count, w_sorts) → Wg p l e 2 43 s m args below meth c g none (mkS σ [(2634, w_count)] [] [(42, w_sorts)] []) H locs (F0 m 170 ls []) := by
    intro v_count v_sorts H locs ls hl hG h
    unfold Pr_begin_n170 at h
    cases h
    exact gx_vret hx hb hr hlocks hG dX3_begin_170
  have n15 : ∀ (k15 : Int32 → Int32 → Int32 → Int32 → Int32 → (Nat → Int32) → Option (Int32 × (Nat → Int32))) (hk15 : ∀ (x2 : Int32) (x3 : Int32) (x4 : Int32) (x5 : Int32) (v_count : Int32) (v_sorts : Nat → Int32) (H : Heap) (locs : List Loc) (ls : Array Slot), lv_has ls 8 [(0, .ref (g.2.1 41)), (1, .ref (g.2.1 10)), (2, .int x2), (3, .int x3), (4, .int x4), (5, .int x5)] → GW g s (mkS σ [(2634, v_count)] [] [(42, v_sorts)] []) H locs → k15 x2 x3 x4 x5 v_count v_sorts = some (w_count, w_sorts) → Wg p l e 2 43 s m args below meth c g none (mkS σ [(2634, w_count)] [] [(42, w_sorts)] []) H locs (F0 m 15 ls [])) (x2 : Int32) (x3 : Int32) (x4 : Int32) (x5 : Int32) (v_count : Int32) (v_sorts : Nat → Int32) (H : Heap) (locs : List Loc) (ls : Array Slot), lv_has ls 8 [(0, .ref (g.2.1 41)), (1, .ref (g.2.1 10)), (2, .int x2), (3, .int x3), (4, .int x4), (5, .int x5)] → GW g s (mkS σ [(2634, v_count)] [] [(42, v_sorts)] []) H locs → Pr_begin_n15 k15 (σ.1 641) (σ.1 2633) (σ.2.2.1 11) x2 x3 x4 x5 v_count v_sorts = some (w_count, w_sorts) → Wg p l e 2 43 s m args below meth c g none (mkS σ [(2634, w_count)] [] [(42, w_sorts)] []) H locs (F0 m 15 ls []) := by
    intro k15 hk15 x2 x3 x4 x5 v_count v_sorts H locs ls hl hG h
    unfold Pr_begin_n15 at h
    refine lv_iload hx hb dX3_begin_15 (lv_at hl 5 rfl) ?_
    refine lv_aload_n hx hb dX3_begin_17 rfl (lv_at hl 0 rfl) ?_
    refine gx_get (v := .int (σ.1 2633)) (C := RX3) (T := TX3) (N := 11) hx hb hts mc_X3 hown hK hG (ga_41 g _) rfl 9 (by decide) hw1 rfl rfl dX3_begin_18 ?_
    refine lv_icmp_ge (tgt := 170) hx hb dX3_begin_21 (by decide) (fun c12 => ?_) (fun c12 => ?_)
    · have h := ite_t c12 h
      exact n170 v_count v_sorts _ _ _ (lv_sub hl [] rfl) hG h
    · have h := ite_f c12 h
      refine lv_iconst (v := (0 : Int32)) hx hb dX3_begin_24 (by decide) ?_
      refine lv_istore (lv' := [(6, .int (0 : Int32)), (0, .ref (g.2.1 41)), (1, .ref (g.2.1 10)), (2, .int x2), (3, .int x3), (4, .int x4), (5, .int x5)]) hx hb dX3_begin_25 hl (Nat.le_of_ble_eq_true rfl) rfl (fun ls hl => ?_)
      exact l27 k15 hk15 FUEL x2 x3 x4 x5 (0 : Int32) v_count v_sorts _ _ _ (lv_sub hl [1, 2, 3, 4, 5, 6, 0] rfl) hG h
  have l15 : ∀  (F : Nat) (x2 : Int32) (x3 : Int32) (x4 : Int32) (x5 : Int32) (v_count : Int32) (v_sorts : Nat → Int32) (H : Heap) (locs : List Loc) (ls : Array Slot), lv_has ls 8 [(0, .ref (g.2.1 41)), (1, .ref (g.2.1 10)), (2, .int x2), (3, .int x3), (4, .int x4), (5, .int x5)] → GW g s (mkS σ [(2634, v_count)] [] [(42, v_sorts)] []) H locs → Pr_begin_l15 (σ.1 641) (σ.1 2633) (σ.2.2.1 11) F x2 x3 x4 x5 v_count v_sorts = some (w_count, w_sorts) → Wg p l e 2 43 s m args below meth c g none (mkS σ [(2634, w_count)] [] [(42, w_sorts)] []) H locs (F0 m 15 ls []) := by
    intro F
    induction F with
    | zero => intro x2 x3 x4 x5 v_count v_sorts H locs ls hl hG h; exact no_some h
    | succ F ih => intro x2 x3 x4 x5 v_count v_sorts H locs ls hl hG h; exact n15 (fun x2 x3 x4 x5 v_count v_sorts => Pr_begin_l15 (σ.1 641) (σ.1 2633) (σ.2.2.1 11) F x2 x3 x4 x5 v_count v_sorts) ih x2 x3 x4 x5 v_count v_sorts H locs ls hl hG h
  refine lv_iconst (v := (-1 : Int32)) hx hb dX3_begin_0 (by decide) ?_
  refine lv_istore_n (lv' := [(2, .int (-1 : Int32)), (0, .ref (g.2.1 41)), (1, .ref (g.2.1 10))]) hx hb dX3_begin_1 rfl hl (Nat.le_of_ble_eq_true rfl) rfl (fun ls hl => ?_)
  refine lv_iconst (v := (-1 : Int32)) hx hb dX3_begin_2 (by decide) ?_
  refine lv_istore_n (lv' := [(3, .int (-1 : Int32)), (2, .int (-1 : Int32)), (0, .ref (g.2.1 41)), (1, .ref (g.2.1 10))]) hx hb dX3_begin_3 rfl hl (Nat.le_of_ble_eq_true rfl) rfl (fun ls hl => ?_)
  refine lv_iconst (v := (-1 : Int32)) hx hb dX3_begin_4 (by decide) ?_
  refine lv_istore (lv' := [(4, .int (-1 : Int32)), (3, .int (-1 : Int32)), (2, .int (-1 : Int32)), (0, .ref (g.2.1 41)), (1, .ref (g.2.1 10))]) hx hb dX3_begin_5 hl (Nat.le_of_ble_eq_true rfl) rfl (fun ls hl => ?_)
  refine lv_aload_n hx hb dX3_begin_7 rfl (lv_at hl 3 rfl) ?_
  refine lv_iconst (v := (0 : Int32)) hx hb dX3_begin_8 (by decide) ?_
  refine gx_put (σ' := (mkS σ [(2634, (0 : Int32))] [] [(42, (σ.2.2.1 42))] [])) (C := RX3) (T := TX3) (N := 11) hx hb hts mc_X3 tyX3 tyX3_ok nmX3 hown hK hG (ga_41 g _) rfl 10 (by decide) hw2 rfl rfl rfl rfl (Nat.le_of_ble_eq_true rfl) ((gf_2634 g _ _).trans (congrArg (g_cells g) (mk_a 0 rfl rfl))) dX3_begin_9 (fun H locs hG => ?_)
  refine lv_iconst (v := (0 : Int32)) hx hb dX3_begin_12 (by decide) ?_
  refine lv_istore (lv' := [(5, .int (0 : Int32)), (4, .int (-1 : Int32)), (3, .int (-1 : Int32)), (2, .int (-1 : Int32)), (0, .ref (g.2.1 41)), (1, .ref (g.2.1 10))]) hx hb dX3_begin_13 hl (Nat.le_of_ble_eq_true rfl) rfl (fun ls hl => ?_)
  exact l15 FUEL (-1 : Int32) (-1 : Int32) (-1 : Int32) (0 : Int32) (0 : Int32) (σ.2.2.1 42) _ _ _ (lv_sub hl [4, 5, 3, 2, 1, 0] rfl) hG h

set_option maxHeartbeats 4000000 in
set_option maxRecDepth 100000 in
theorem c_JA_fillI_45 (l : Launch) (g : GC) (σ : St) (x1 : Int32) (w_r0 : Nat → Int32) (h : JA_fillI x1 1024 (σ.2.2.1 45) = some w_r0) : Cn l g yJ7_fill_53178 (Cond.code yJ7_fill_53178 cJ7_fill_53178 4 none :: wG) 0 0 [.ref (g.2.1 45), .int x1] σ none (mkS σ [] [] [(45, w_r0)] []) := by
  unfold Cn
  refine Met.ofW (cc := cJ7_fill_53178) (maxL := 4) (ret := none) (by decide) rfl ?_
  intro p e s m args below meth c s₁ B hml hv
  obtain ⟨hargs, hP0, hK⟩ := hv
  have hx := B.exec
  have hb := B.bytes
  have hr := B.returns
  have hts : ∀ w ∈ wG, w.before args s = true := fun w h => atoms_spec (ws := (Cond.code yJ7_fill_53178 cJ7_fill_53178 4 none :: wG)) B.pre w (List.mem_cons_of_mem _ h)
  have hown : s.vm.findClass RJ7 = some m.cls := findClass_of_methodNamed B.named
  have hlocks := B.notSynchronized
  have hf9 : entryFrame m args 4 = _ := (congrArg (fun a => entryFrame m a 4) hargs).trans (lg_entry_eq m [.ref (g.2.1 45), .int x1] 4)
  show Wg p l e 0 0 s m args below meth c g none (mkS σ [] [] [(45, w_r0)] []) s.heap [] (entryFrame m args 4)
  rw [hf9]
  have hl := lv_entry ([.ref (g.2.1 45), .int x1]) (n := 4) (Nat.le_of_ble_eq_true rfl)
  generalize (lg_sl ([.ref (g.2.1 45), .int x1]) ++ List.replicate (4 - (lg_sl ([.ref (g.2.1 45), .int x1])).length) Slot.unset).toArray = ls at hl ⊢
  have hl : lv_has ls 4 [(0, .ref (g.2.1 45)), (1, .int x1)] := hl
  have hG : GW g s σ s.heap [] := ⟨hP0, va_S.rf⟩
  have hG : GW g s (mkS σ [] [] [(45, (σ.2.2.1 45))] []) s.heap [] := GW_self [] [] [45] [] hG
  unfold JA_fillI at h
  have n20 : ∀ (v_r0 : Nat → Int32) (H : Heap) (locs : List Loc) (ls : Array Slot), lv_has ls 4 [] → GW g s (mkS σ [] [] [(45, v_r0)] []) H locs → JA_fillI_n20 1024 v_r0 = some w_r0 → Wg p l e 0 0 s m args below meth c g none (mkS σ [] [] [(45, w_r0)] []) H locs (F0 m 20 ls []) := by
    intro v_r0 H locs ls hl hG h
    unfold JA_fillI_n20 at h
    cases h
    exact gx_vret hx hb hr hlocks hG dJ7_fill_53178_20
  have n5 : ∀ (k5 : Int32 → Int32 → Int32 → (Nat → Int32) → Option ((Nat → Int32))) (hk5 : ∀ (x1 : Int32) (x2 : Int32) (x3 : Int32) (v_r0 : Nat → Int32) (H : Heap) (locs : List Loc) (ls : Array Slot), lv_has ls 4 [(0, .ref (g.2.1 45)), (1, .int x1), (2, .int x2), (3, .int x3)] → GW g s (mkS σ [] [] [(45, v_r0)] []) H locs → k5 x1 x2 x3 v_r0 = some w_r0 → Wg p l e 0 0 s m args below meth c g none (mkS σ [] [] [(45, w_r0)] []) H locs (F0 m 5 ls [])) (x1 : Int32) (x2 : Int32) (x3 : Int32) (v_r0 : Nat → Int32) (H : Heap) (locs : List Loc) (ls : Array Slot), lv_has ls 4 [(0, .ref (g.2.1 45)), (1, .int x1), (2, .int x2), (3, .int x3)] → GW g s (mkS σ [] [] [(45, v_r0)] []) H locs → JA_fillI_n5 k5 1024 x1 x2 x3 v_r0 = some w_r0 → Wg p l e 0 0 s m args below meth c g none (mkS σ [] [] [(45, w_r0)] []) H locs (F0 m 5 ls []) := by
    intro k5 hk5 x1 x2 x3 v_r0 H locs ls hl hG h
    unfold JA_fillI_n5 at h
    refine lv_iload_n hx hb dJ7_fill_53178_5 rfl (lv_at hl 2 rfl) ?_
    refine lv_iload_n hx hb dJ7_fill_53178_6 rfl (lv_at hl 3 rfl) ?_
    refine lv_icmp_ge (tgt := 20) hx hb dJ7_fill_53178_7 (by decide) (fun c1 => ?_) (fun c1 => ?_)
    · have h := ite_t c1 h
      exact n20 v_r0 _ _ _ (lv_sub hl [] rfl) hG h
    · have h := ite_f c1 h
      refine lv_aload_n hx hb dJ7_fill_53178_10 rfl (lv_at hl 0 rfl) ?_
      refine lv_iload_n hx hb dJ7_fill_53178_11 rfl (lv_at hl 2 rfl) ?_
      refine lv_iload_n hx hb dJ7_fill_53178_12 rfl (lv_at hl 1 rfl) ?_
      obtain ⟨hg2, h⟩ := gd_some h
      refine gx_iast (σ' := (mkS σ [] [] [(45, (upd v_r0 (x2.toNatClampNeg) x1))] [])) (f := v_r0) hx hb hK hG (ga_45 g _) hg2 ((gs_45 g _ _).trans (congrArg (g_cells g) (mk_c 0 rfl rfl))) dJ7_fill_53178_13 (fun H locs hG => ?_)
      refine lv_iinc (v := (x2 + (1 : Int32))) (lv' := [(2, .int (x2 + (1 : Int32))), (0, .ref (g.2.1 45)), (1, .int x1), (3, .int x3)]) hx hb dJ7_fill_53178_14 hl (k := 2) rfl (congrArg (fun z => x2 + z) (by decide)) (Nat.le_of_ble_eq_true rfl) rfl (fun ls hl => ?_)
      refine lv_goto (tgt := 5) hx hb dJ7_fill_53178_17 (by decide) ?_
      exact hk5 x1 (x2 + (1 : Int32)) x3 (upd v_r0 (x2.toNatClampNeg) x1) _ _ _ (lv_sub hl [1, 2, 0, 3] rfl) hG h
  have l5 : ∀  (F : Nat) (x1 : Int32) (x2 : Int32) (x3 : Int32) (v_r0 : Nat → Int32) (H : Heap) (locs : List Loc) (ls : Array Slot), lv_has ls 4 [(0, .ref (g.2.1 45)), (1, .int x1), (2, .int x2), (3, .int x3)] → GW g s (mkS σ [] [] [(45, v_r0)] []) H locs → JA_fillI_l5 1024 F x1 x2 x3 v_r0 = some w_r0 → Wg p l e 0 0 s m args below meth c g none (mkS σ [] [] [(45, w_r0)] []) H locs (F0 m 5 ls []) := by
    intro F
    induction F with
    | zero => intro x1 x2 x3 v_r0 H locs ls hl hG h; exact no_some h
    | succ F ih => intro x1 x2 x3 v_r0 H locs ls hl hG h; exact n5 (fun x1 x2 x3 v_r0 => JA_fillI_l5 1024 F x1 x2 x3 v_r0) ih x1 x2 x3 v_r0 H locs ls hl hG h
  refine lv_iconst (v := (0 : Int32)) hx hb dJ7_fill_53178_0 (by decide) ?_
  refine lv_istore_n (lv' := [(2, .int (0 : Int32)), (0, .ref (g.2.1 45)), (1, .int x1)]) hx hb dJ7_fill_53178_1 rfl hl (Nat.le_of_ble_eq_true rfl) rfl (fun ls hl => ?_)
  refine lv_aload_n hx hb dJ7_fill_53178_2 rfl (lv_at hl 1 rfl) ?_
  refine gx_alen (v := (Int32.ofNat 1024)) hx hb hK hG 0 (ga_45 g _) rfl rfl dJ7_fill_53178_3 ?_
  refine lv_istore_n (lv' := [(3, .int (Int32.ofNat 1024)), (2, .int (0 : Int32)), (0, .ref (g.2.1 45)), (1, .int x1)]) hx hb dJ7_fill_53178_4 rfl hl (Nat.le_of_ble_eq_true rfl) rfl (fun ls hl => ?_)
  exact l5 FUEL x1 (0 : Int32) (Int32.ofNat 1024) (σ.2.2.1 45) _ _ _ (lv_sub hl [2, 3, 1, 0] rfl) hG h

set_option maxHeartbeats 4000000 in
set_option maxRecDepth 100000 in
theorem c_Pr_keyOf (l : Launch) (g : GC) (σ : St) (x1 : Int32) (x2 : Int32) (x3 : Int32) (r : Int32) (h : Pr_keyOf x1 x2 x3 (σ.2.2.1 42) = some r) : Cn l g yX3_keyOf (Cond.code yX3_keyOf cX3_keyOf 4 (some .int) :: wG) 0 0 [.ref (g.2.1 41), .int x1, .int x2, .int x3] σ (some (.int r)) σ := by
  unfold Cn
  refine Met.ofW (cc := cX3_keyOf) (maxL := 4) (ret := (some .int)) (by decide) rfl ?_
  intro p e s m args below meth c s₁ B hml hv
  obtain ⟨hargs, hP0, hK⟩ := hv
  have hx := B.exec
  have hb := B.bytes
  have hr := B.returns
  have hts : ∀ w ∈ wG, w.before args s = true := fun w h => atoms_spec (ws := (Cond.code yX3_keyOf cX3_keyOf 4 (some .int) :: wG)) B.pre w (List.mem_cons_of_mem _ h)
  have hown : s.vm.findClass RX3 = some m.cls := findClass_of_methodNamed B.named
  have hlocks := B.notSynchronized
  have hw0 := hts _ mw_2_1
  have hf9 : entryFrame m args 4 = _ := (congrArg (fun a => entryFrame m a 4) hargs).trans (lg_entry_eq m [.ref (g.2.1 41), .int x1, .int x2, .int x3] 4)
  show Wg p l e 0 0 s m args below meth c g (some (.int r)) σ s.heap [] (entryFrame m args 4)
  rw [hf9]
  have hl := lv_entry ([.ref (g.2.1 41), .int x1, .int x2, .int x3]) (n := 4) (Nat.le_of_ble_eq_true rfl)
  generalize (lg_sl ([.ref (g.2.1 41), .int x1, .int x2, .int x3]) ++ List.replicate (4 - (lg_sl ([.ref (g.2.1 41), .int x1, .int x2, .int x3])).length) Slot.unset).toArray = ls at hl ⊢
  have hl : lv_has ls 4 [(0, .ref (g.2.1 41)), (1, .int x1), (2, .int x2), (3, .int x3)] := hl
  have hG : GW g s σ s.heap [] := ⟨hP0, va_S.rf⟩
  unfold Pr_keyOf at h
  refine lv_aload_n hx hb dX3_keyOf_0 rfl (lv_at hl 0 rfl) ?_
  refine gx_get (v := .ref (g.2.1 42)) (C := RX3) (T := TX3) (N := 11) hx hb hts mc_X3 hown hK hG (ga_41 g _) rfl 0 (by decide) hw0 rfl rfl dX3_keyOf_1 ?_
  refine lv_iload_n hx hb dX3_keyOf_4 rfl (lv_at hl 1 rfl) ?_
  refine lv_bipush (v := (32 : Int32)) hx hb dX3_keyOf_5 (by decide) ?_
  refine lv_imul hx hb dX3_keyOf_7 ?_
  refine lv_iload_n hx hb dX3_keyOf_8 rfl (lv_at hl 2 rfl) ?_
  refine lv_iadd hx hb dX3_keyOf_9 ?_
  obtain ⟨hg1, h⟩ := gd_some h
  refine gx_iald (f := (σ.2.2.1 42)) hx hb hK hG (ga_42 g _) hg1 dX3_keyOf_10 ?_
  refine lv_sipush (v := (1024 : Int32)) hx hb dX3_keyOf_11 (by decide) ?_
  refine lv_imul hx hb dX3_keyOf_14 ?_
  refine lv_aload_n hx hb dX3_keyOf_15 rfl (lv_at hl 0 rfl) ?_
  refine gx_get (v := .ref (g.2.1 42)) (C := RX3) (T := TX3) (N := 11) hx hb hts mc_X3 hown hK hG (ga_41 g _) rfl 0 (by decide) hw0 rfl rfl dX3_keyOf_16 ?_
  refine lv_iload_n hx hb dX3_keyOf_19 rfl (lv_at hl 2 rfl) ?_
  refine lv_bipush (v := (32 : Int32)) hx hb dX3_keyOf_20 (by decide) ?_
  refine lv_imul hx hb dX3_keyOf_22 ?_
  refine lv_iload_n hx hb dX3_keyOf_23 rfl (lv_at hl 3 rfl) ?_
  refine lv_iadd hx hb dX3_keyOf_24 ?_
  obtain ⟨hg2, h⟩ := gd_some h
  refine gx_iald (f := (σ.2.2.1 42)) hx hb hK hG (ga_42 g _) hg2 dX3_keyOf_25 ?_
  refine lv_iadd hx hb dX3_keyOf_26 ?_
  cases h
  exact gx_iret hx hb hr hlocks hG dX3_keyOf_27

set_option maxHeartbeats 4000000 in
set_option maxRecDepth 100000 in
theorem c_Pr_stir (l : Launch) (g : GC) (σ : St) (x0 : Int32) (r : Int64) (h : Pr_stir x0 = some r) : Cn l g yX3_stir (Cond.code yX3_stir cX3_stir 3 (some .long) :: wG) 0 0 [.int x0] σ (some (.long r)) σ := by
  unfold Cn
  refine Met.ofW (cc := cX3_stir) (maxL := 3) (ret := (some .long)) (by decide) rfl ?_
  intro p e s m args below meth c s₁ B hml hv
  obtain ⟨hargs, hP0, hK⟩ := hv
  have hx := B.exec
  have hb := B.bytes
  have hr := B.returns
  have hts : ∀ w ∈ wG, w.before args s = true := fun w h => atoms_spec (ws := (Cond.code yX3_stir cX3_stir 3 (some .long) :: wG)) B.pre w (List.mem_cons_of_mem _ h)
  have hown : s.vm.findClass RX3 = some m.cls := findClass_of_methodNamed B.named
  have hlocks := B.notSynchronized
  have hw0 := hts _ mw_4_106
  have hf9 : entryFrame m args 3 = _ := (congrArg (fun a => entryFrame m a 3) hargs).trans (lg_entry_eq m [.int x0] 3)
  show Wg p l e 0 0 s m args below meth c g (some (.long r)) σ s.heap [] (entryFrame m args 3)
  rw [hf9]
  have hl := lv_entry ([.int x0]) (n := 3) (Nat.le_of_ble_eq_true rfl)
  generalize (lg_sl ([.int x0]) ++ List.replicate (3 - (lg_sl ([.int x0])).length) Slot.unset).toArray = ls at hl ⊢
  have hl : lv_has ls 3 [(0, .int x0)] := hl
  have hG : GW g s σ s.heap [] := ⟨hP0, va_S.rf⟩
  unfold Pr_stir at h
  refine lv_iload_n hx hb dX3_stir_0 rfl (lv_at hl 0 rfl) ?_
  refine lv_iconst (v := (1 : Int32)) hx hb dX3_stir_1 (by decide) ?_
  refine lv_iadd hx hb dX3_stir_2 ?_
  refine lv_i2l hx hb dX3_stir_3 rfl ?_
  refine lv_ldc2 hx hb hown hw0 dX3_stir_4 ?_
  refine lv_lmul hx hb dX3_stir_7 ?_
  refine lv_topl (fun y1 ey1 => ?_)
  have h := lt_at h ey1
  refine lv_lstore_n (lv' := [(1, .long y1), (0, .int x0)]) hx hb dX3_stir_8 rfl hl (Nat.le_of_ble_eq_true rfl) rfl (fun ls hl => ?_)
  refine lv_lload_n hx hb dX3_stir_9 rfl (lv_at hl 0 rfl) ?_
  refine lv_lload_n hx hb dX3_stir_10 rfl (lv_at hl 0 rfl) ?_
  refine lv_bipush (v := (32 : Int32)) hx hb dX3_stir_11 (by decide) ?_
  refine lv_lushr hx hb dX3_stir_13 rfl ?_
  refine lv_lxor hx hb dX3_stir_14 ?_
  refine lv_topl (fun y2 ey2 => ?_)
  have h := lt_at h ey2
  refine lv_lstore_n (lv' := [(1, .long y2), (0, .int x0)]) hx hb dX3_stir_15 rfl hl (Nat.le_of_ble_eq_true rfl) rfl (fun ls hl => ?_)
  refine lv_lload_n hx hb dX3_stir_16 rfl (lv_at hl 0 rfl) ?_
  refine lv_lload_n hx hb dX3_stir_17 rfl (lv_at hl 0 rfl) ?_
  refine lv_lmul hx hb dX3_stir_18 ?_
  cases h
  exact gx_lret hx hb hr hlocks hG dX3_stir_19

set_option maxHeartbeats 4000000 in
set_option maxRecDepth 100000 in
theorem c_Pr_sumOf (l : Launch) (g : GC) (σ : St) (x1 : Int32) (x2 : Int32) (r : Int64) (h : Pr_sumOf x1 x2 (σ.1 2633) (σ.2.2.1 42) = some r) : Cn l g yX3_sumOf (Cond.code yX3_sumOf cX3_sumOf 6 (some .long) :: wG) 1 23 [.ref (g.2.1 41), .int x1, .int x2] σ (some (.long r)) σ := by
  unfold Cn
  refine Met.ofW (cc := cX3_sumOf) (maxL := 6) (ret := (some .long)) (by decide) rfl ?_
  intro p e s m args below meth c s₁ B hml hv
  obtain ⟨hargs, hP0, hK⟩ := hv
  have hx := B.exec
  have hb := B.bytes
  have hr := B.returns
  have hts : ∀ w ∈ wG, w.before args s = true := fun w h => atoms_spec (ws := (Cond.code yX3_sumOf cX3_sumOf 6 (some .long) :: wG)) B.pre w (List.mem_cons_of_mem _ h)
  have hown : s.vm.findClass RX3 = some m.cls := findClass_of_methodNamed B.named
  have hlocks := B.notSynchronized
  have hS9 : CallFix p m c cX3_sumOf 6 s args wG RX3 := ⟨hx, hb, hml, hown, hts⟩
  have hw0 := hts _ mw_2_11
  have hf9 : entryFrame m args 6 = _ := (congrArg (fun a => entryFrame m a 6) hargs).trans (lg_entry_eq m [.ref (g.2.1 41), .int x1, .int x2] 6)
  show Wg p l e 1 23 s m args below meth c g (some (.long r)) σ s.heap [] (entryFrame m args 6)
  rw [hf9]
  have hl := lv_entry ([.ref (g.2.1 41), .int x1, .int x2]) (n := 6) (Nat.le_of_ble_eq_true rfl)
  generalize (lg_sl ([.ref (g.2.1 41), .int x1, .int x2]) ++ List.replicate (6 - (lg_sl ([.ref (g.2.1 41), .int x1, .int x2])).length) Slot.unset).toArray = ls at hl ⊢
  have hl : lv_has ls 6 [(0, .ref (g.2.1 41)), (1, .int x1), (2, .int x2)] := hl
  have hG : GW g s σ s.heap [] := ⟨hP0, va_S.rf⟩
  unfold Pr_sumOf at h
  have n34 : ∀ (x3 : Int64) (H : Heap) (locs : List Loc) (ls : Array Slot), lv_has ls 6 [(3, .long x3)] → GW g s σ H locs → Pr_sumOf_n34 x3 = some r → Wg p l e 1 23 s m args below meth c g (some (.long r)) σ H locs (F0 m 34 ls []) := by
    intro x3 H locs ls hl hG h
    unfold Pr_sumOf_n34 at h
    refine lv_lload_n hx hb dX3_sumOf_34 rfl (lv_at hl 0 rfl) ?_
    cases h
    exact gx_lret hx hb hr hlocks hG dX3_sumOf_35
  have n5 : ∀ (k5 : Int32 → Int32 → Int64 → Int32 → Option (Int64)) (hk5 : ∀ (x1 : Int32) (x2 : Int32) (x3 : Int64) (x5 : Int32) (H : Heap) (locs : List Loc) (ls : Array Slot), lv_has ls 6 [(0, .ref (g.2.1 41)), (1, .int x1), (2, .int x2), (3, .long x3), (5, .int x5)] → GW g s σ H locs → k5 x1 x2 x3 x5 = some r → Wg p l e 1 23 s m args below meth c g (some (.long r)) σ H locs (F0 m 5 ls [])) (x1 : Int32) (x2 : Int32) (x3 : Int64) (x5 : Int32) (H : Heap) (locs : List Loc) (ls : Array Slot), lv_has ls 6 [(0, .ref (g.2.1 41)), (1, .int x1), (2, .int x2), (3, .long x3), (5, .int x5)] → GW g s σ H locs → Pr_sumOf_n5 k5 (σ.1 2633) (σ.2.2.1 42) x1 x2 x3 x5 = some r → Wg p l e 1 23 s m args below meth c g (some (.long r)) σ H locs (F0 m 5 ls []) := by
    intro k5 hk5 x1 x2 x3 x5 H locs ls hl hG h
    unfold Pr_sumOf_n5 at h
    refine lv_iload hx hb dX3_sumOf_5 (lv_at hl 4 rfl) ?_
    refine lv_aload_n hx hb dX3_sumOf_7 rfl (lv_at hl 0 rfl) ?_
    refine gx_get (v := .int (σ.1 2633)) (C := RX3) (T := TX3) (N := 11) hx hb hts mc_X3 hown hK hG (ga_41 g _) rfl 9 (by decide) hw0 rfl rfl dX3_sumOf_8 ?_
    refine lv_icmp_ge (tgt := 34) hx hb dX3_sumOf_11 (by decide) (fun c1 => ?_) (fun c1 => ?_)
    · have h := ite_t c1 h
      exact n34 x3 _ _ _ (lv_sub hl [3] rfl) hG h
    · have h := ite_f c1 h
      refine lv_lload_n hx hb dX3_sumOf_14 rfl (lv_at hl 3 rfl) ?_
      refine lv_aload_n hx hb dX3_sumOf_15 rfl (lv_at hl 0 rfl) ?_
      refine lv_iload_n hx hb dX3_sumOf_16 rfl (lv_at hl 1 rfl) ?_
      refine lv_iload hx hb dX3_sumOf_17 (lv_at hl 4 rfl) ?_
      refine lv_iload_n hx hb dX3_sumOf_19 rfl (lv_at hl 2 rfl) ?_
      obtain ⟨z2, hc3, h⟩ := bnd_some h
      refine gx_cV (σ' := σ) (r := (some (.int z2))) (rest := [.long x3]) (As := [.int x1, .int x5, .int x2]) hS9 (c_Pr_keyOf l g σ x1 x5 x2 z2 hc3) rfl (cwV 3 hts (gz_V mw_4_99 mw_4_101 ms_2_15 mw_1_10 mw_4_102) rfl rfl rfl hdV_X3_keyOf ⟨Nat.le_of_ble_eq_true rfl, Nat.le_of_ble_eq_true rfl⟩) hK hG (ga_41 g _) rfl rfl rfl hl.1 rfl (Nat.le_of_ble_eq_true rfl) dX3_sumOf_20 (fun H locs hG => ?_)
      refine W.eq (g2 := F0 m 23 ls [.int z2, .long x3]) rfl ?_
      obtain ⟨z4, hc5, h⟩ := bnd_some h
      refine gx_cS (σ' := σ) (r := (some (.long z4))) (rest := [.long x3]) (As := [.int z2]) hS9 (c_Pr_stir l g σ z2 z4 hc5) rfl (va_cwS 1 hts (gz_S mw_4_103 mw_4_104 mw_1_10 mw_4_105) rfl rfl rfl hdS_X3_stir ⟨Nat.le_of_ble_eq_true rfl, Nat.le_of_ble_eq_true rfl⟩) hK hG rfl hl.1 rfl (Nat.le_of_ble_eq_true rfl) dX3_sumOf_23 (fun H locs hG => ?_)
      refine W.eq (g2 := F0 m 26 ls [.long z4, .long x3]) rfl ?_
      refine lv_ladd hx hb dX3_sumOf_26 ?_
      refine lv_lstore_n (lv' := [(3, .long (x3 + z4)), (0, .ref (g.2.1 41)), (1, .int x1), (2, .int x2), (5, .int x5)]) hx hb dX3_sumOf_27 rfl hl (Nat.le_of_ble_eq_true rfl) rfl (fun ls hl => ?_)
      refine lv_iinc (v := (x5 + (1 : Int32))) (lv' := [(5, .int (x5 + (1 : Int32))), (3, .long (x3 + z4)), (0, .ref (g.2.1 41)), (1, .int x1), (2, .int x2)]) hx hb dX3_sumOf_28 hl (k := 4) rfl (congrArg (fun z => x5 + z) (by decide)) (Nat.le_of_ble_eq_true rfl) rfl (fun ls hl => ?_)
      refine lv_goto (tgt := 5) hx hb dX3_sumOf_31 (by decide) ?_
      exact hk5 x1 x2 (x3 + z4) (x5 + (1 : Int32)) _ _ _ (lv_sub hl [2, 3, 4, 1, 0] rfl) hG h
  have l5 : ∀  (F : Nat) (x1 : Int32) (x2 : Int32) (x3 : Int64) (x5 : Int32) (H : Heap) (locs : List Loc) (ls : Array Slot), lv_has ls 6 [(0, .ref (g.2.1 41)), (1, .int x1), (2, .int x2), (3, .long x3), (5, .int x5)] → GW g s σ H locs → Pr_sumOf_l5 (σ.1 2633) (σ.2.2.1 42) F x1 x2 x3 x5 = some r → Wg p l e 1 23 s m args below meth c g (some (.long r)) σ H locs (F0 m 5 ls []) := by
    intro F
    induction F with
    | zero => intro x1 x2 x3 x5 H locs ls hl hG h; exact no_some h
    | succ F ih => intro x1 x2 x3 x5 H locs ls hl hG h; exact n5 (fun x1 x2 x3 x5 => Pr_sumOf_l5 (σ.1 2633) (σ.2.2.1 42) F x1 x2 x3 x5) ih x1 x2 x3 x5 H locs ls hl hG h
  refine lv_lconst (v := (0 : Int64)) hx hb dX3_sumOf_0 (by decide) ?_
  refine lv_lstore_n (lv' := [(3, .long (0 : Int64)), (0, .ref (g.2.1 41)), (1, .int x1), (2, .int x2)]) hx hb dX3_sumOf_1 rfl hl (Nat.le_of_ble_eq_true rfl) rfl (fun ls hl => ?_)
  refine lv_iconst (v := (0 : Int32)) hx hb dX3_sumOf_2 (by decide) ?_
  refine lv_istore (lv' := [(5, .int (0 : Int32)), (3, .long (0 : Int64)), (0, .ref (g.2.1 41)), (1, .int x1), (2, .int x2)]) hx hb dX3_sumOf_3 hl (Nat.le_of_ble_eq_true rfl) rfl (fun ls hl => ?_)
  exact l5 FUEL x1 x2 (0 : Int64) (0 : Int32) _ _ _ (lv_sub hl [2, 3, 4, 1, 0] rfl) hG h

set_option maxHeartbeats 4000000 in
set_option maxRecDepth 100000 in
theorem c_Pr_gather_41_48 (l : Launch) (g : GC) (σ : St) (x2 : Int32) (w_r1 : Nat → Int32) (h : Pr_gather x2 32 (σ.1 2633) (σ.2.2.1 48) (σ.2.2.1 42) = some w_r1) : Cn l g yX3_gather (Cond.code yX3_gather cX3_gather 8 none :: wG) 1 23 [.ref (g.2.1 41), .ref (g.2.1 48), .int x2] σ none (mkS σ [] [] [(48, w_r1)] []) := by
  unfold Cn
  refine Met.ofW (cc := cX3_gather) (maxL := 8) (ret := none) (by decide) rfl ?_
  intro p e s m args below meth c s₁ B hml hv
  obtain ⟨hargs, hP0, hK⟩ := hv
  have hx := B.exec
  have hb := B.bytes
  have hr := B.returns
  have hts : ∀ w ∈ wG, w.before args s = true := fun w h => atoms_spec (ws := (Cond.code yX3_gather cX3_gather 8 none :: wG)) B.pre w (List.mem_cons_of_mem _ h)
  have hown : s.vm.findClass RX3 = some m.cls := findClass_of_methodNamed B.named
  have hlocks := B.notSynchronized
  have hS9 : CallFix p m c cX3_gather 8 s args wG RX3 := ⟨hx, hb, hml, hown, hts⟩
  have hw0 := hts _ mw_2_11
  have hf9 : entryFrame m args 8 = _ := (congrArg (fun a => entryFrame m a 8) hargs).trans (lg_entry_eq m [.ref (g.2.1 41), .ref (g.2.1 48), .int x2] 8)
  show Wg p l e 1 23 s m args below meth c g none (mkS σ [] [] [(48, w_r1)] []) s.heap [] (entryFrame m args 8)
  rw [hf9]
  have hl := lv_entry ([.ref (g.2.1 41), .ref (g.2.1 48), .int x2]) (n := 8) (Nat.le_of_ble_eq_true rfl)
  generalize (lg_sl ([.ref (g.2.1 41), .ref (g.2.1 48), .int x2]) ++ List.replicate (8 - (lg_sl ([.ref (g.2.1 41), .ref (g.2.1 48), .int x2])).length) Slot.unset).toArray = ls at hl ⊢
  have hl : lv_has ls 8 [(0, .ref (g.2.1 41)), (1, .ref (g.2.1 48)), (2, .int x2)] := hl
  have hG : GW g s σ s.heap [] := ⟨hP0, va_S.rf⟩
  have hG : GW g s (mkS σ [] [] [(48, (σ.2.2.1 48))] []) s.heap [] := GW_self [] [] [48] [] hG
  unfold Pr_gather at h
  have n70 : ∀ (k14 : Int32 → Int32 → Int32 → (Nat → Int32) → Option ((Nat → Int32))) (hk14 : ∀ (x3 : Int32) (x4 : Int32) (x5 : Int32) (v_r1 : Nat → Int32) (H : Heap) (locs : List Loc) (ls : Array Slot), lv_has ls 8 [(0, .ref (g.2.1 41)), (1, .ref (g.2.1 48)), (3, .int x3), (4, .int x4), (5, .int x5)] → GW g s (mkS σ [] [] [(48, v_r1)] []) H locs → k14 x3 x4 x5 v_r1 = some w_r1 → Wg p l e 1 23 s m args below meth c g none (mkS σ [] [] [(48, w_r1)] []) H locs (F0 m 14 ls [])) (x3 : Int32) (x4 : Int32) (x5 : Int32) (x6 : Int32) (x7 : Int32) (v_r1 : Nat → Int32) (H : Heap) (locs : List Loc) (ls : Array Slot), lv_has ls 8 [(0, .ref (g.2.1 41)), (1, .ref (g.2.1 48)), (3, .int x3), (4, .int x4), (5, .int x5), (6, .int x6), (7, .int x7)] → GW g s (mkS σ [] [] [(48, v_r1)] []) H locs → Pr_gather_n70 k14 32 x3 x4 x5 x6 x7 v_r1 = some w_r1 → Wg p l e 1 23 s m args below meth c g none (mkS σ [] [] [(48, w_r1)] []) H locs (F0 m 70 ls []) := by
    intro k14 hk14 x3 x4 x5 x6 x7 v_r1 H locs ls hl hG h
    unfold Pr_gather_n70 at h
    refine lv_aload_n hx hb dX3_gather_70 rfl (lv_at hl 1 rfl) ?_
    refine lv_iload hx hb dX3_gather_71 (lv_at hl 6 rfl) ?_
    refine lv_iload hx hb dX3_gather_73 (lv_at hl 5 rfl) ?_
    obtain ⟨hg1, h⟩ := gd_some h
    refine gx_iast (σ' := (mkS σ [] [] [(48, (upd v_r1 (x7.toNatClampNeg) x6))] [])) (f := v_r1) hx hb hK hG (ga_48 g _) hg1 ((gs_48 g _ _).trans (congrArg (g_cells g) (mk_c 0 rfl rfl))) dX3_gather_75 (fun H locs hG => ?_)
    refine lv_iinc (v := (x5 + (1 : Int32))) (lv' := [(5, .int (x5 + (1 : Int32))), (0, .ref (g.2.1 41)), (1, .ref (g.2.1 48)), (3, .int x3), (4, .int x4), (6, .int x6), (7, .int x7)]) hx hb dX3_gather_76 hl (k := 4) rfl (congrArg (fun z => x5 + z) (by decide)) (Nat.le_of_ble_eq_true rfl) rfl (fun ls hl => ?_)
    refine lv_goto (tgt := 14) hx hb dX3_gather_79 (by decide) ?_
    exact hk14 x3 x4 (x5 + (1 : Int32)) (upd v_r1 (x7.toNatClampNeg) x6) _ _ _ (lv_sub hl [1, 2, 3, 4, 0] rfl) hG h
  have n38 : ∀ (k14 : Int32 → Int32 → Int32 → (Nat → Int32) → Option ((Nat → Int32))) (hk14 : ∀ (x3 : Int32) (x4 : Int32) (x5 : Int32) (v_r1 : Nat → Int32) (H : Heap) (locs : List Loc) (ls : Array Slot), lv_has ls 8 [(0, .ref (g.2.1 41)), (1, .ref (g.2.1 48)), (3, .int x3), (4, .int x4), (5, .int x5)] → GW g s (mkS σ [] [] [(48, v_r1)] []) H locs → k14 x3 x4 x5 v_r1 = some w_r1 → Wg p l e 1 23 s m args below meth c g none (mkS σ [] [] [(48, w_r1)] []) H locs (F0 m 14 ls [])) (k38 : Int32 → Int32 → Int32 → Int32 → Int32 → (Nat → Int32) → Option ((Nat → Int32))) (hk38 : ∀ (x3 : Int32) (x4 : Int32) (x5 : Int32) (x6 : Int32) (x7 : Int32) (v_r1 : Nat → Int32) (H : Heap) (locs : List Loc) (ls : Array Slot), lv_has ls 8 [(0, .ref (g.2.1 41)), (1, .ref (g.2.1 48)), (3, .int x3), (4, .int x4), (5, .int x5), (6, .int x6), (7, .int x7)] → GW g s (mkS σ [] [] [(48, v_r1)] []) H locs → k38 x3 x4 x5 x6 x7 v_r1 = some w_r1 → Wg p l e 1 23 s m args below meth c g none (mkS σ [] [] [(48, w_r1)] []) H locs (F0 m 38 ls [])) (x3 : Int32) (x4 : Int32) (x5 : Int32) (x6 : Int32) (x7 : Int32) (v_r1 : Nat → Int32) (H : Heap) (locs : List Loc) (ls : Array Slot), lv_has ls 8 [(0, .ref (g.2.1 41)), (1, .ref (g.2.1 48)), (3, .int x3), (4, .int x4), (5, .int x5), (6, .int x6), (7, .int x7)] → GW g s (mkS σ [] [] [(48, v_r1)] []) H locs → Pr_gather_n38 k14 k38 32 x3 x4 x5 x6 x7 v_r1 = some w_r1 → Wg p l e 1 23 s m args below meth c g none (mkS σ [] [] [(48, w_r1)] []) H locs (F0 m 38 ls []) := by
    intro k14 hk14 k38 hk38 x3 x4 x5 x6 x7 v_r1 H locs ls hl hG h
    unfold Pr_gather_n38 at h
    refine lv_iload hx hb dX3_gather_38 (lv_at hl 6 rfl) ?_
    refine lv_if_le (tgt := 70) hx hb dX3_gather_40 (by decide) (fun c2 => ?_) (fun c2 => ?_)
    · have h := ite_t c2 h
      exact n70 k14 hk14 x3 x4 x5 x6 x7 v_r1 _ _ _ (lv_sub hl [0, 1, 2, 3, 4, 5, 6] rfl) hG h
    · have h := ite_f c2 h
      refine lv_aload_n hx hb dX3_gather_43 rfl (lv_at hl 1 rfl) ?_
      refine lv_iload hx hb dX3_gather_44 (lv_at hl 6 rfl) ?_
      refine lv_iconst (v := (1 : Int32)) hx hb dX3_gather_46 (by decide) ?_
      refine lv_isub hx hb dX3_gather_47 ?_
      obtain ⟨hg3, h⟩ := gd_some h
      refine gx_iald (f := v_r1) hx hb hK hG (ga_48 g _) hg3 dX3_gather_48 ?_
      refine lv_iload hx hb dX3_gather_49 (lv_at hl 5 rfl) ?_
      refine lv_icmp_le (tgt := 70) hx hb dX3_gather_51 (by decide) (fun c4 => ?_) (fun c4 => ?_)
      · have h := ite_t c4 h
        exact n70 k14 hk14 x3 x4 x5 x6 x7 v_r1 _ _ _ (lv_sub hl [0, 1, 2, 3, 4, 5, 6] rfl) hG h
      · have h := ite_f c4 h
        refine lv_aload_n hx hb dX3_gather_54 rfl (lv_at hl 1 rfl) ?_
        refine lv_iload hx hb dX3_gather_55 (lv_at hl 6 rfl) ?_
        refine lv_aload_n hx hb dX3_gather_57 rfl (lv_at hl 1 rfl) ?_
        refine lv_iload hx hb dX3_gather_58 (lv_at hl 6 rfl) ?_
        refine lv_iconst (v := (1 : Int32)) hx hb dX3_gather_60 (by decide) ?_
        refine lv_isub hx hb dX3_gather_61 ?_
        refine gx_iald (f := v_r1) hx hb hK hG (ga_48 g _) hg3 dX3_gather_62 ?_
        obtain ⟨hg5, h⟩ := gd_some h
        refine gx_iast (σ' := (mkS σ [] [] [(48, (upd v_r1 (x7.toNatClampNeg) (v_r1 ((x7 - (1 : Int32)).toNatClampNeg))))] [])) (f := v_r1) hx hb hK hG (ga_48 g _) hg5 ((gs_48 g _ _).trans (congrArg (g_cells g) (mk_c 0 rfl rfl))) dX3_gather_63 (fun H locs hG => ?_)
        refine lv_iinc (v := (x7 + (-1 : Int32))) (lv' := [(7, .int (x7 + (-1 : Int32))), (0, .ref (g.2.1 41)), (1, .ref (g.2.1 48)), (3, .int x3), (4, .int x4), (5, .int x5), (6, .int x6)]) hx hb dX3_gather_64 hl (k := 6) rfl (congrArg (fun z => x7 + z) (by decide)) (Nat.le_of_ble_eq_true rfl) rfl (fun ls hl => ?_)
        refine lv_goto (tgt := 38) hx hb dX3_gather_67 (by decide) ?_
        exact hk38 x3 x4 x5 x6 (x7 + (-1 : Int32)) (upd v_r1 (x7.toNatClampNeg) (v_r1 ((x7 - (1 : Int32)).toNatClampNeg))) _ _ _ (lv_sub hl [1, 2, 3, 4, 5, 6, 0] rfl) hG h
  have l38 : ∀ (k14 : Int32 → Int32 → Int32 → (Nat → Int32) → Option ((Nat → Int32))) (hk14 : ∀ (x3 : Int32) (x4 : Int32) (x5 : Int32) (v_r1 : Nat → Int32) (H : Heap) (locs : List Loc) (ls : Array Slot), lv_has ls 8 [(0, .ref (g.2.1 41)), (1, .ref (g.2.1 48)), (3, .int x3), (4, .int x4), (5, .int x5)] → GW g s (mkS σ [] [] [(48, v_r1)] []) H locs → k14 x3 x4 x5 v_r1 = some w_r1 → Wg p l e 1 23 s m args below meth c g none (mkS σ [] [] [(48, w_r1)] []) H locs (F0 m 14 ls [])) (F : Nat) (x3 : Int32) (x4 : Int32) (x5 : Int32) (x6 : Int32) (x7 : Int32) (v_r1 : Nat → Int32) (H : Heap) (locs : List Loc) (ls : Array Slot), lv_has ls 8 [(0, .ref (g.2.1 41)), (1, .ref (g.2.1 48)), (3, .int x3), (4, .int x4), (5, .int x5), (6, .int x6), (7, .int x7)] → GW g s (mkS σ [] [] [(48, v_r1)] []) H locs → Pr_gather_l38 k14 32 F x3 x4 x5 x6 x7 v_r1 = some w_r1 → Wg p l e 1 23 s m args below meth c g none (mkS σ [] [] [(48, w_r1)] []) H locs (F0 m 38 ls []) := by
    intro k14 hk14 F
    induction F with
    | zero => intro x3 x4 x5 x6 x7 v_r1 H locs ls hl hG h; exact no_some h
    | succ F ih => intro x3 x4 x5 x6 x7 v_r1 H locs ls hl hG h; exact n38 k14 hk14 (fun x3 x4 x5 x6 x7 v_r1 => Pr_gather_l38 k14 32 F x3 x4 x5 x6 x7 v_r1) ih x3 x4 x5 x6 x7 v_r1 H locs ls hl hG h
  have n82 : ∀ (v_r1 : Nat → Int32) (H : Heap) (locs : List Loc) (ls : Array Slot), lv_has ls 8 [] → GW g s (mkS σ [] [] [(48, v_r1)] []) H locs → Pr_gather_n82 32 v_r1 = some w_r1 → Wg p l e 1 23 s m args below meth c g none (mkS σ [] [] [(48, w_r1)] []) H locs (F0 m 82 ls []) := by
    intro v_r1 H locs ls hl hG h
    unfold Pr_gather_n82 at h
    cases h
    exact gx_vret hx hb hr hlocks hG dX3_gather_82
  have n14 : ∀ (k14 : Int32 → Int32 → Int32 → (Nat → Int32) → Option ((Nat → Int32))) (hk14 : ∀ (x3 : Int32) (x4 : Int32) (x5 : Int32) (v_r1 : Nat → Int32) (H : Heap) (locs : List Loc) (ls : Array Slot), lv_has ls 8 [(0, .ref (g.2.1 41)), (1, .ref (g.2.1 48)), (3, .int x3), (4, .int x4), (5, .int x5)] → GW g s (mkS σ [] [] [(48, v_r1)] []) H locs → k14 x3 x4 x5 v_r1 = some w_r1 → Wg p l e 1 23 s m args below meth c g none (mkS σ [] [] [(48, w_r1)] []) H locs (F0 m 14 ls [])) (x3 : Int32) (x4 : Int32) (x5 : Int32) (v_r1 : Nat → Int32) (H : Heap) (locs : List Loc) (ls : Array Slot), lv_has ls 8 [(0, .ref (g.2.1 41)), (1, .ref (g.2.1 48)), (3, .int x3), (4, .int x4), (5, .int x5)] → GW g s (mkS σ [] [] [(48, v_r1)] []) H locs → Pr_gather_n14 k14 32 (σ.1 2633) (σ.2.2.1 42) x3 x4 x5 v_r1 = some w_r1 → Wg p l e 1 23 s m args below meth c g none (mkS σ [] [] [(48, w_r1)] []) H locs (F0 m 14 ls []) := by
    intro k14 hk14 x3 x4 x5 v_r1 H locs ls hl hG h
    unfold Pr_gather_n14 at h
    refine lv_iload hx hb dX3_gather_14 (lv_at hl 4 rfl) ?_
    refine lv_aload_n hx hb dX3_gather_16 rfl (lv_at hl 0 rfl) ?_
    refine gx_get (v := .int (σ.1 2633)) (C := RX3) (T := TX3) (N := 11) hx hb hts mc_X3 hown hK hG (ga_41 g _) rfl 9 (by decide) hw0 rfl rfl dX3_gather_17 ?_
    refine lv_icmp_ge (tgt := 82) hx hb dX3_gather_20 (by decide) (fun c6 => ?_) (fun c6 => ?_)
    · have h := ite_t c6 h
      exact n82 v_r1 _ _ _ (lv_sub hl [] rfl) hG h
    · have h := ite_f c6 h
      refine lv_aload_n hx hb dX3_gather_23 rfl (lv_at hl 0 rfl) ?_
      refine lv_iload_n hx hb dX3_gather_24 rfl (lv_at hl 2 rfl) ?_
      refine lv_iload hx hb dX3_gather_25 (lv_at hl 4 rfl) ?_
      refine lv_iload hx hb dX3_gather_27 (lv_at hl 3 rfl) ?_
      obtain ⟨z7, hc8, h⟩ := bnd_some h
      refine gx_cV (σ' := (mkS σ [] [] [(48, v_r1)] [])) (r := (some (.int z7))) (rest := []) (As := [.int x3, .int x5, .int x4]) hS9 (c_Pr_keyOf l g (mkS σ [] [] [(48, v_r1)] []) x3 x5 x4 z7 hc8) rfl (cwV 3 hts (gz_V mw_4_99 mw_4_101 ms_2_15 mw_1_10 mw_4_102) rfl rfl rfl hdV_X3_keyOf ⟨Nat.le_of_ble_eq_true rfl, Nat.le_of_ble_eq_true rfl⟩) hK hG (ga_41 g _) rfl rfl rfl hl.1 rfl (Nat.le_of_ble_eq_true rfl) dX3_gather_29 (fun H locs hG => ?_)
      refine W.eq (g2 := F0 m 32 ls [.int z7]) rfl ?_
      refine lv_istore (lv' := [(6, .int z7), (0, .ref (g.2.1 41)), (1, .ref (g.2.1 48)), (3, .int x3), (4, .int x4), (5, .int x5)]) hx hb dX3_gather_32 hl (Nat.le_of_ble_eq_true rfl) rfl (fun ls hl => ?_)
      refine lv_iload hx hb dX3_gather_34 (lv_at hl 5 rfl) ?_
      refine lv_istore (lv' := [(7, .int x5), (6, .int z7), (0, .ref (g.2.1 41)), (1, .ref (g.2.1 48)), (3, .int x3), (4, .int x4), (5, .int x5)]) hx hb dX3_gather_36 hl (Nat.le_of_ble_eq_true rfl) rfl (fun ls hl => ?_)
      exact l38 k14 hk14 FUEL x3 x4 x5 z7 x5 v_r1 _ _ _ (lv_sub hl [2, 3, 4, 5, 6, 1, 0] rfl) hG h
  have l14 : ∀  (F : Nat) (x3 : Int32) (x4 : Int32) (x5 : Int32) (v_r1 : Nat → Int32) (H : Heap) (locs : List Loc) (ls : Array Slot), lv_has ls 8 [(0, .ref (g.2.1 41)), (1, .ref (g.2.1 48)), (3, .int x3), (4, .int x4), (5, .int x5)] → GW g s (mkS σ [] [] [(48, v_r1)] []) H locs → Pr_gather_l14 32 (σ.1 2633) (σ.2.2.1 42) F x3 x4 x5 v_r1 = some w_r1 → Wg p l e 1 23 s m args below meth c g none (mkS σ [] [] [(48, w_r1)] []) H locs (F0 m 14 ls []) := by
    intro F
    induction F with
    | zero => intro x3 x4 x5 v_r1 H locs ls hl hG h; exact no_some h
    | succ F ih => intro x3 x4 x5 v_r1 H locs ls hl hG h; exact n14 (fun x3 x4 x5 v_r1 => Pr_gather_l14 32 (σ.1 2633) (σ.2.2.1 42) F x3 x4 x5 v_r1) ih x3 x4 x5 v_r1 H locs ls hl hG h
  refine lv_iload_n hx hb dX3_gather_0 rfl (lv_at hl 2 rfl) ?_
  refine lv_bipush (v := (32 : Int32)) hx hb dX3_gather_1 (by decide) ?_
  refine lv_idiv hx hb dX3_gather_3 (by decide) ?_
  refine lv_istore_n (lv' := [(3, .int (x2 / (32 : Int32))), (0, .ref (g.2.1 41)), (1, .ref (g.2.1 48)), (2, .int x2)]) hx hb dX3_gather_4 rfl hl (Nat.le_of_ble_eq_true rfl) rfl (fun ls hl => ?_)
  refine lv_iload_n hx hb dX3_gather_5 rfl (lv_at hl 3 rfl) ?_
  refine lv_bipush (v := (32 : Int32)) hx hb dX3_gather_6 (by decide) ?_
  refine lv_irem hx hb dX3_gather_8 (by decide) ?_
  refine lv_topi (fun y9 ey9 => ?_)
  have h := lt_at h ey9
  refine lv_istore (lv' := [(4, .int y9), (3, .int (x2 / (32 : Int32))), (0, .ref (g.2.1 41)), (1, .ref (g.2.1 48)), (2, .int x2)]) hx hb dX3_gather_9 hl (Nat.le_of_ble_eq_true rfl) rfl (fun ls hl => ?_)
  refine lv_iconst (v := (0 : Int32)) hx hb dX3_gather_11 (by decide) ?_
  refine lv_istore (lv' := [(5, .int (0 : Int32)), (4, .int y9), (3, .int (x2 / (32 : Int32))), (0, .ref (g.2.1 41)), (1, .ref (g.2.1 48)), (2, .int x2)]) hx hb dX3_gather_12 hl (Nat.le_of_ble_eq_true rfl) rfl (fun ls hl => ?_)
  exact l14 FUEL (x2 / (32 : Int32)) y9 (0 : Int32) (σ.2.2.1 48) _ _ _ (lv_sub hl [3, 4, 2, 1, 0] rfl) hG h

set_option maxHeartbeats 4000000 in
set_option maxRecDepth 100000 in
theorem c_Pr_gather_41_49 (l : Launch) (g : GC) (σ : St) (x2 : Int32) (w_r1 : Nat → Int32) (h : Pr_gather x2 32 (σ.1 2633) (σ.2.2.1 49) (σ.2.2.1 42) = some w_r1) : Cn l g yX3_gather (Cond.code yX3_gather cX3_gather 8 none :: wG) 1 23 [.ref (g.2.1 41), .ref (g.2.1 49), .int x2] σ none (mkS σ [] [] [(49, w_r1)] []) := by
  unfold Cn
  refine Met.ofW (cc := cX3_gather) (maxL := 8) (ret := none) (by decide) rfl ?_
  intro p e s m args below meth c s₁ B hml hv
  obtain ⟨hargs, hP0, hK⟩ := hv
  have hx := B.exec
  have hb := B.bytes
  have hr := B.returns
  have hts : ∀ w ∈ wG, w.before args s = true := fun w h => atoms_spec (ws := (Cond.code yX3_gather cX3_gather 8 none :: wG)) B.pre w (List.mem_cons_of_mem _ h)
  have hown : s.vm.findClass RX3 = some m.cls := findClass_of_methodNamed B.named
  have hlocks := B.notSynchronized
  have hS9 : CallFix p m c cX3_gather 8 s args wG RX3 := ⟨hx, hb, hml, hown, hts⟩
  have hw0 := hts _ mw_2_11
  have hf9 : entryFrame m args 8 = _ := (congrArg (fun a => entryFrame m a 8) hargs).trans (lg_entry_eq m [.ref (g.2.1 41), .ref (g.2.1 49), .int x2] 8)
  show Wg p l e 1 23 s m args below meth c g none (mkS σ [] [] [(49, w_r1)] []) s.heap [] (entryFrame m args 8)
  rw [hf9]
  have hl := lv_entry ([.ref (g.2.1 41), .ref (g.2.1 49), .int x2]) (n := 8) (Nat.le_of_ble_eq_true rfl)
  generalize (lg_sl ([.ref (g.2.1 41), .ref (g.2.1 49), .int x2]) ++ List.replicate (8 - (lg_sl ([.ref (g.2.1 41), .ref (g.2.1 49), .int x2])).length) Slot.unset).toArray = ls at hl ⊢
  have hl : lv_has ls 8 [(0, .ref (g.2.1 41)), (1, .ref (g.2.1 49)), (2, .int x2)] := hl
  have hG : GW g s σ s.heap [] := ⟨hP0, va_S.rf⟩
  have hG : GW g s (mkS σ [] [] [(49, (σ.2.2.1 49))] []) s.heap [] := GW_self [] [] [49] [] hG
  unfold Pr_gather at h
  have n70 : ∀ (k14 : Int32 → Int32 → Int32 → (Nat → Int32) → Option ((Nat → Int32))) (hk14 : ∀ (x3 : Int32) (x4 : Int32) (x5 : Int32) (v_r1 : Nat → Int32) (H : Heap) (locs : List Loc) (ls : Array Slot), lv_has ls 8 [(0, .ref (g.2.1 41)), (1, .ref (g.2.1 49)), (3, .int x3), (4, .int x4), (5, .int x5)] → GW g s (mkS σ [] [] [(49, v_r1)] []) H locs → k14 x3 x4 x5 v_r1 = some w_r1 → Wg p l e 1 23 s m args below meth c g none (mkS σ [] [] [(49, w_r1)] []) H locs (F0 m 14 ls [])) (x3 : Int32) (x4 : Int32) (x5 : Int32) (x6 : Int32) (x7 : Int32) (v_r1 : Nat → Int32) (H : Heap) (locs : List Loc) (ls : Array Slot), lv_has ls 8 [(0, .ref (g.2.1 41)), (1, .ref (g.2.1 49)), (3, .int x3), (4, .int x4), (5, .int x5), (6, .int x6), (7, .int x7)] → GW g s (mkS σ [] [] [(49, v_r1)] []) H locs → Pr_gather_n70 k14 32 x3 x4 x5 x6 x7 v_r1 = some w_r1 → Wg p l e 1 23 s m args below meth c g none (mkS σ [] [] [(49, w_r1)] []) H locs (F0 m 70 ls []) := by
    intro k14 hk14 x3 x4 x5 x6 x7 v_r1 H locs ls hl hG h
    unfold Pr_gather_n70 at h
    refine lv_aload_n hx hb dX3_gather_70 rfl (lv_at hl 1 rfl) ?_
    refine lv_iload hx hb dX3_gather_71 (lv_at hl 6 rfl) ?_
    refine lv_iload hx hb dX3_gather_73 (lv_at hl 5 rfl) ?_
    obtain ⟨hg1, h⟩ := gd_some h
    refine gx_iast (σ' := (mkS σ [] [] [(49, (upd v_r1 (x7.toNatClampNeg) x6))] [])) (f := v_r1) hx hb hK hG (ga_49 g _) hg1 ((gs_49 g _ _).trans (congrArg (g_cells g) (mk_c 0 rfl rfl))) dX3_gather_75 (fun H locs hG => ?_)
    refine lv_iinc (v := (x5 + (1 : Int32))) (lv' := [(5, .int (x5 + (1 : Int32))), (0, .ref (g.2.1 41)), (1, .ref (g.2.1 49)), (3, .int x3), (4, .int x4), (6, .int x6), (7, .int x7)]) hx hb dX3_gather_76 hl (k := 4) rfl (congrArg (fun z => x5 + z) (by decide)) (Nat.le_of_ble_eq_true rfl) rfl (fun ls hl => ?_)
    refine lv_goto (tgt := 14) hx hb dX3_gather_79 (by decide) ?_
    exact hk14 x3 x4 (x5 + (1 : Int32)) (upd v_r1 (x7.toNatClampNeg) x6) _ _ _ (lv_sub hl [1, 2, 3, 4, 0] rfl) hG h
  have n38 : ∀ (k14 : Int32 → Int32 → Int32 → (Nat → Int32) → Option ((Nat → Int32))) (hk14 : ∀ (x3 : Int32) (x4 : Int32) (x5 : Int32) (v_r1 : Nat → Int32) (H : Heap) (locs : List Loc) (ls : Array Slot), lv_has ls 8 [(0, .ref (g.2.1 41)), (1, .ref (g.2.1 49)), (3, .int x3), (4, .int x4), (5, .int x5)] → GW g s (mkS σ [] [] [(49, v_r1)] []) H locs → k14 x3 x4 x5 v_r1 = some w_r1 → Wg p l e 1 23 s m args below meth c g none (mkS σ [] [] [(49, w_r1)] []) H locs (F0 m 14 ls [])) (k38 : Int32 → Int32 → Int32 → Int32 → Int32 → (Nat → Int32) → Option ((Nat → Int32))) (hk38 : ∀ (x3 : Int32) (x4 : Int32) (x5 : Int32) (x6 : Int32) (x7 : Int32) (v_r1 : Nat → Int32) (H : Heap) (locs : List Loc) (ls : Array Slot), lv_has ls 8 [(0, .ref (g.2.1 41)), (1, .ref (g.2.1 49)), (3, .int x3), (4, .int x4), (5, .int x5), (6, .int x6), (7, .int x7)] → GW g s (mkS σ [] [] [(49, v_r1)] []) H locs → k38 x3 x4 x5 x6 x7 v_r1 = some w_r1 → Wg p l e 1 23 s m args below meth c g none (mkS σ [] [] [(49, w_r1)] []) H locs (F0 m 38 ls [])) (x3 : Int32) (x4 : Int32) (x5 : Int32) (x6 : Int32) (x7 : Int32) (v_r1 : Nat → Int32) (H : Heap) (locs : List Loc) (ls : Array Slot), lv_has ls 8 [(0, .ref (g.2.1 41)), (1, .ref (g.2.1 49)), (3, .int x3), (4, .int x4), (5, .int x5), (6, .int x6), (7, .int x7)] → GW g s (mkS σ [] [] [(49, v_r1)] []) H locs → Pr_gather_n38 k14 k38 32 x3 x4 x5 x6 x7 v_r1 = some w_r1 → Wg p l e 1 23 s m args below meth c g none (mkS σ [] [] [(49, w_r1)] []) H locs (F0 m 38 ls []) := by
    intro k14 hk14 k38 hk38 x3 x4 x5 x6 x7 v_r1 H locs ls hl hG h
    unfold Pr_gather_n38 at h
    refine lv_iload hx hb dX3_gather_38 (lv_at hl 6 rfl) ?_
    refine lv_if_le (tgt := 70) hx hb dX3_gather_40 (by decide) (fun c2 => ?_) (fun c2 => ?_)
    · have h := ite_t c2 h
      exact n70 k14 hk14 x3 x4 x5 x6 x7 v_r1 _ _ _ (lv_sub hl [0, 1, 2, 3, 4, 5, 6] rfl) hG h
    · have h := ite_f c2 h
      refine lv_aload_n hx hb dX3_gather_43 rfl (lv_at hl 1 rfl) ?_
      refine lv_iload hx hb dX3_gather_44 (lv_at hl 6 rfl) ?_
      refine lv_iconst (v := (1 : Int32)) hx hb dX3_gather_46 (by decide) ?_
      refine lv_isub hx hb dX3_gather_47 ?_
      obtain ⟨hg3, h⟩ := gd_some h
      refine gx_iald (f := v_r1) hx hb hK hG (ga_49 g _) hg3 dX3_gather_48 ?_
      refine lv_iload hx hb dX3_gather_49 (lv_at hl 5 rfl) ?_
      refine lv_icmp_le (tgt := 70) hx hb dX3_gather_51 (by decide) (fun c4 => ?_) (fun c4 => ?_)
      · have h := ite_t c4 h
        exact n70 k14 hk14 x3 x4 x5 x6 x7 v_r1 _ _ _ (lv_sub hl [0, 1, 2, 3, 4, 5, 6] rfl) hG h
      · have h := ite_f c4 h
        refine lv_aload_n hx hb dX3_gather_54 rfl (lv_at hl 1 rfl) ?_
        refine lv_iload hx hb dX3_gather_55 (lv_at hl 6 rfl) ?_
        refine lv_aload_n hx hb dX3_gather_57 rfl (lv_at hl 1 rfl) ?_
        refine lv_iload hx hb dX3_gather_58 (lv_at hl 6 rfl) ?_
        refine lv_iconst (v := (1 : Int32)) hx hb dX3_gather_60 (by decide) ?_
        refine lv_isub hx hb dX3_gather_61 ?_
        refine gx_iald (f := v_r1) hx hb hK hG (ga_49 g _) hg3 dX3_gather_62 ?_
        obtain ⟨hg5, h⟩ := gd_some h
        refine gx_iast (σ' := (mkS σ [] [] [(49, (upd v_r1 (x7.toNatClampNeg) (v_r1 ((x7 - (1 : Int32)).toNatClampNeg))))] [])) (f := v_r1) hx hb hK hG (ga_49 g _) hg5 ((gs_49 g _ _).trans (congrArg (g_cells g) (mk_c 0 rfl rfl))) dX3_gather_63 (fun H locs hG => ?_)
        refine lv_iinc (v := (x7 + (-1 : Int32))) (lv' := [(7, .int (x7 + (-1 : Int32))), (0, .ref (g.2.1 41)), (1, .ref (g.2.1 49)), (3, .int x3), (4, .int x4), (5, .int x5), (6, .int x6)]) hx hb dX3_gather_64 hl (k := 6) rfl (congrArg (fun z => x7 + z) (by decide)) (Nat.le_of_ble_eq_true rfl) rfl (fun ls hl => ?_)
        refine lv_goto (tgt := 38) hx hb dX3_gather_67 (by decide) ?_
        exact hk38 x3 x4 x5 x6 (x7 + (-1 : Int32)) (upd v_r1 (x7.toNatClampNeg) (v_r1 ((x7 - (1 : Int32)).toNatClampNeg))) _ _ _ (lv_sub hl [1, 2, 3, 4, 5, 6, 0] rfl) hG h
  have l38 : ∀ (k14 : Int32 → Int32 → Int32 → (Nat → Int32) → Option ((Nat → Int32))) (hk14 : ∀ (x3 : Int32) (x4 : Int32) (x5 : Int32) (v_r1 : Nat → Int32) (H : Heap) (locs : List Loc) (ls : Array Slot), lv_has ls 8 [(0, .ref (g.2.1 41)), (1, .ref (g.2.1 49)), (3, .int x3), (4, .int x4), (5, .int x5)] → GW g s (mkS σ [] [] [(49, v_r1)] []) H locs → k14 x3 x4 x5 v_r1 = some w_r1 → Wg p l e 1 23 s m args below meth c g none (mkS σ [] [] [(49, w_r1)] []) H locs (F0 m 14 ls [])) (F : Nat) (x3 : Int32) (x4 : Int32) (x5 : Int32) (x6 : Int32) (x7 : Int32) (v_r1 : Nat → Int32) (H : Heap) (locs : List Loc) (ls : Array Slot), lv_has ls 8 [(0, .ref (g.2.1 41)), (1, .ref (g.2.1 49)), (3, .int x3), (4, .int x4), (5, .int x5), (6, .int x6), (7, .int x7)] → GW g s (mkS σ [] [] [(49, v_r1)] []) H locs → Pr_gather_l38 k14 32 F x3 x4 x5 x6 x7 v_r1 = some w_r1 → Wg p l e 1 23 s m args below meth c g none (mkS σ [] [] [(49, w_r1)] []) H locs (F0 m 38 ls []) := by
    intro k14 hk14 F
    induction F with
    | zero => intro x3 x4 x5 x6 x7 v_r1 H locs ls hl hG h; exact no_some h
    | succ F ih => intro x3 x4 x5 x6 x7 v_r1 H locs ls hl hG h; exact n38 k14 hk14 (fun x3 x4 x5 x6 x7 v_r1 => Pr_gather_l38 k14 32 F x3 x4 x5 x6 x7 v_r1) ih x3 x4 x5 x6 x7 v_r1 H locs ls hl hG h
  have n82 : ∀ (v_r1 : Nat → Int32) (H : Heap) (locs : List Loc) (ls : Array Slot), lv_has ls 8 [] → GW g s (mkS σ [] [] [(49, v_r1)] []) H locs → Pr_gather_n82 32 v_r1 = some w_r1 → Wg p l e 1 23 s m args below meth c g none (mkS σ [] [] [(49, w_r1)] []) H locs (F0 m 82 ls []) := by
    intro v_r1 H locs ls hl hG h
    unfold Pr_gather_n82 at h
    cases h
    exact gx_vret hx hb hr hlocks hG dX3_gather_82
  have n14 : ∀ (k14 : Int32 → Int32 → Int32 → (Nat → Int32) → Option ((Nat → Int32))) (hk14 : ∀ (x3 : Int32) (x4 : Int32) (x5 : Int32) (v_r1 : Nat → Int32) (H : Heap) (locs : List Loc) (ls : Array Slot), lv_has ls 8 [(0, .ref (g.2.1 41)), (1, .ref (g.2.1 49)), (3, .int x3), (4, .int x4), (5, .int x5)] → GW g s (mkS σ [] [] [(49, v_r1)] []) H locs → k14 x3 x4 x5 v_r1 = some w_r1 → Wg p l e 1 23 s m args below meth c g none (mkS σ [] [] [(49, w_r1)] []) H locs (F0 m 14 ls [])) (x3 : Int32) (x4 : Int32) (x5 : Int32) (v_r1 : Nat → Int32) (H : Heap) (locs : List Loc) (ls : Array Slot), lv_has ls 8 [(0, .ref (g.2.1 41)), (1, .ref (g.2.1 49)), (3, .int x3), (4, .int x4), (5, .int x5)] → GW g s (mkS σ [] [] [(49, v_r1)] []) H locs → Pr_gather_n14 k14 32 (σ.1 2633) (σ.2.2.1 42) x3 x4 x5 v_r1 = some w_r1 → Wg p l e 1 23 s m args below meth c g none (mkS σ [] [] [(49, w_r1)] []) H locs (F0 m 14 ls []) := by
    intro k14 hk14 x3 x4 x5 v_r1 H locs ls hl hG h
    unfold Pr_gather_n14 at h
    refine lv_iload hx hb dX3_gather_14 (lv_at hl 4 rfl) ?_
    refine lv_aload_n hx hb dX3_gather_16 rfl (lv_at hl 0 rfl) ?_
    refine gx_get (v := .int (σ.1 2633)) (C := RX3) (T := TX3) (N := 11) hx hb hts mc_X3 hown hK hG (ga_41 g _) rfl 9 (by decide) hw0 rfl rfl dX3_gather_17 ?_
    refine lv_icmp_ge (tgt := 82) hx hb dX3_gather_20 (by decide) (fun c6 => ?_) (fun c6 => ?_)
    · have h := ite_t c6 h
      exact n82 v_r1 _ _ _ (lv_sub hl [] rfl) hG h
    · have h := ite_f c6 h
      refine lv_aload_n hx hb dX3_gather_23 rfl (lv_at hl 0 rfl) ?_
      refine lv_iload_n hx hb dX3_gather_24 rfl (lv_at hl 2 rfl) ?_
      refine lv_iload hx hb dX3_gather_25 (lv_at hl 4 rfl) ?_
      refine lv_iload hx hb dX3_gather_27 (lv_at hl 3 rfl) ?_
      obtain ⟨z7, hc8, h⟩ := bnd_some h
      refine gx_cV (σ' := (mkS σ [] [] [(49, v_r1)] [])) (r := (some (.int z7))) (rest := []) (As := [.int x3, .int x5, .int x4]) hS9 (c_Pr_keyOf l g (mkS σ [] [] [(49, v_r1)] []) x3 x5 x4 z7 hc8) rfl (cwV 3 hts (gz_V mw_4_99 mw_4_101 ms_2_15 mw_1_10 mw_4_102) rfl rfl rfl hdV_X3_keyOf ⟨Nat.le_of_ble_eq_true rfl, Nat.le_of_ble_eq_true rfl⟩) hK hG (ga_41 g _) rfl rfl rfl hl.1 rfl (Nat.le_of_ble_eq_true rfl) dX3_gather_29 (fun H locs hG => ?_)
      refine W.eq (g2 := F0 m 32 ls [.int z7]) rfl ?_
      refine lv_istore (lv' := [(6, .int z7), (0, .ref (g.2.1 41)), (1, .ref (g.2.1 49)), (3, .int x3), (4, .int x4), (5, .int x5)]) hx hb dX3_gather_32 hl (Nat.le_of_ble_eq_true rfl) rfl (fun ls hl => ?_)
      refine lv_iload hx hb dX3_gather_34 (lv_at hl 5 rfl) ?_
      refine lv_istore (lv' := [(7, .int x5), (6, .int z7), (0, .ref (g.2.1 41)), (1, .ref (g.2.1 49)), (3, .int x3), (4, .int x4), (5, .int x5)]) hx hb dX3_gather_36 hl (Nat.le_of_ble_eq_true rfl) rfl (fun ls hl => ?_)
      exact l38 k14 hk14 FUEL x3 x4 x5 z7 x5 v_r1 _ _ _ (lv_sub hl [2, 3, 4, 5, 6, 1, 0] rfl) hG h
  have l14 : ∀  (F : Nat) (x3 : Int32) (x4 : Int32) (x5 : Int32) (v_r1 : Nat → Int32) (H : Heap) (locs : List Loc) (ls : Array Slot), lv_has ls 8 [(0, .ref (g.2.1 41)), (1, .ref (g.2.1 49)), (3, .int x3), (4, .int x4), (5, .int x5)] → GW g s (mkS σ [] [] [(49, v_r1)] []) H locs → Pr_gather_l14 32 (σ.1 2633) (σ.2.2.1 42) F x3 x4 x5 v_r1 = some w_r1 → Wg p l e 1 23 s m args below meth c g none (mkS σ [] [] [(49, w_r1)] []) H locs (F0 m 14 ls []) := by
    intro F
    induction F with
    | zero => intro x3 x4 x5 v_r1 H locs ls hl hG h; exact no_some h
    | succ F ih => intro x3 x4 x5 v_r1 H locs ls hl hG h; exact n14 (fun x3 x4 x5 v_r1 => Pr_gather_l14 32 (σ.1 2633) (σ.2.2.1 42) F x3 x4 x5 v_r1) ih x3 x4 x5 v_r1 H locs ls hl hG h
  refine lv_iload_n hx hb dX3_gather_0 rfl (lv_at hl 2 rfl) ?_
  refine lv_bipush (v := (32 : Int32)) hx hb dX3_gather_1 (by decide) ?_
  refine lv_idiv hx hb dX3_gather_3 (by decide) ?_
  refine lv_istore_n (lv' := [(3, .int (x2 / (32 : Int32))), (0, .ref (g.2.1 41)), (1, .ref (g.2.1 49)), (2, .int x2)]) hx hb dX3_gather_4 rfl hl (Nat.le_of_ble_eq_true rfl) rfl (fun ls hl => ?_)
  refine lv_iload_n hx hb dX3_gather_5 rfl (lv_at hl 3 rfl) ?_
  refine lv_bipush (v := (32 : Int32)) hx hb dX3_gather_6 (by decide) ?_
  refine lv_irem hx hb dX3_gather_8 (by decide) ?_
  refine lv_topi (fun y9 ey9 => ?_)
  have h := lt_at h ey9
  refine lv_istore (lv' := [(4, .int y9), (3, .int (x2 / (32 : Int32))), (0, .ref (g.2.1 41)), (1, .ref (g.2.1 49)), (2, .int x2)]) hx hb dX3_gather_9 hl (Nat.le_of_ble_eq_true rfl) rfl (fun ls hl => ?_)
  refine lv_iconst (v := (0 : Int32)) hx hb dX3_gather_11 (by decide) ?_
  refine lv_istore (lv' := [(5, .int (0 : Int32)), (4, .int y9), (3, .int (x2 / (32 : Int32))), (0, .ref (g.2.1 41)), (1, .ref (g.2.1 49)), (2, .int x2)]) hx hb dX3_gather_12 hl (Nat.le_of_ble_eq_true rfl) rfl (fun ls hl => ?_)
  exact l14 FUEL (x2 / (32 : Int32)) y9 (0 : Int32) (σ.2.2.1 49) _ _ _ (lv_sub hl [3, 4, 2, 1, 0] rfl) hG h

set_option maxHeartbeats 4000000 in
set_option maxRecDepth 100000 in
theorem c_Pr_isAlike (l : Launch) (g : GC) (σ : St) (x1 : Int32) (x2 : Int32) (r : Int32) (w_keys : Nat → Int32) (w_otherKeys : Nat → Int32) (h : Pr_isAlike x1 x2 (σ.1 2633) (σ.2.2.1 48) (σ.2.2.1 49) (σ.2.2.1 42) = some (r, w_keys, w_otherKeys)) : Cn l g yX3_isAlike (Cond.code yX3_isAlike cX3_isAlike 4 (some .boolean) :: wG) 2 50 [.ref (g.2.1 41), .int x1, .int x2] σ (some (.int r)) (mkS σ [] [] [(48, w_keys), (49, w_otherKeys)] []) := by
  unfold Cn
  refine Met.ofW (cc := cX3_isAlike) (maxL := 4) (ret := (some .boolean)) (by decide) rfl ?_
  intro p e s m args below meth c s₁ B hml hv
  obtain ⟨hargs, hP0, hK⟩ := hv
  have hx := B.exec
  have hb := B.bytes
  have hr := B.returns
  have hts : ∀ w ∈ wG, w.before args s = true := fun w h => atoms_spec (ws := (Cond.code yX3_isAlike cX3_isAlike 4 (some .boolean) :: wG)) B.pre w (List.mem_cons_of_mem _ h)
  have hown : s.vm.findClass RX3 = some m.cls := findClass_of_methodNamed B.named
  have hlocks := B.notSynchronized
  have hS9 : CallFix p m c cX3_isAlike 4 s args wG RX3 := ⟨hx, hb, hml, hown, hts⟩
  have hw0 := hts _ mw_2_11
  have hw1 := hts _ mw_2_7
  have hw2 := hts _ mw_2_8
  have hf9 : entryFrame m args 4 = _ := (congrArg (fun a => entryFrame m a 4) hargs).trans (lg_entry_eq m [.ref (g.2.1 41), .int x1, .int x2] 4)
  show Wg p l e 2 50 s m args below meth c g (some (.int r)) (mkS σ [] [] [(48, w_keys), (49, w_otherKeys)] []) s.heap [] (entryFrame m args 4)
  rw [hf9]
  have hl := lv_entry ([.ref (g.2.1 41), .int x1, .int x2]) (n := 4) (Nat.le_of_ble_eq_true rfl)
  generalize (lg_sl ([.ref (g.2.1 41), .int x1, .int x2]) ++ List.replicate (4 - (lg_sl ([.ref (g.2.1 41), .int x1, .int x2])).length) Slot.unset).toArray = ls at hl ⊢
  have hl : lv_has ls 4 [(0, .ref (g.2.1 41)), (1, .int x1), (2, .int x2)] := hl
  have hG : GW g s σ s.heap [] := ⟨hP0, va_S.rf⟩
  have hG : GW g s (mkS σ [] [] [(48, (σ.2.2.1 48)), (49, (σ.2.2.1 49))] []) s.heap [] := GW_self [] [] [48, 49] [] hG
  unfold Pr_isAlike at h
  have n43 : ∀ (v_keys : Nat → Int32) (v_otherKeys : Nat → Int32) (H : Heap) (locs : List Loc) (ls : Array Slot), lv_has ls 4 [] → GW g s (mkS σ [] [] [(48, v_keys), (49, v_otherKeys)] []) H locs → Pr_isAlike_n43 v_keys v_otherKeys = some (r, w_keys, w_otherKeys) → Wg p l e 2 50 s m args below meth c g (some (.int r)) (mkS σ [] [] [(48, w_keys), (49, w_otherKeys)] []) H locs (F0 m 43 ls []) := by
    intro v_keys v_otherKeys H locs ls hl hG h
    unfold Pr_isAlike_n43 at h
    refine lv_iconst (v := (0 : Int32)) hx hb dX3_isAlike_43 (by decide) ?_
    cases h
    exact gx_zret hx hb hr hlocks (by decide) hG dX3_isAlike_44
  have n51 : ∀ (v_keys : Nat → Int32) (v_otherKeys : Nat → Int32) (H : Heap) (locs : List Loc) (ls : Array Slot), lv_has ls 4 [] → GW g s (mkS σ [] [] [(48, v_keys), (49, v_otherKeys)] []) H locs → Pr_isAlike_n51 v_keys v_otherKeys = some (r, w_keys, w_otherKeys) → Wg p l e 2 50 s m args below meth c g (some (.int r)) (mkS σ [] [] [(48, w_keys), (49, w_otherKeys)] []) H locs (F0 m 51 ls []) := by
    intro v_keys v_otherKeys H locs ls hl hG h
    unfold Pr_isAlike_n51 at h
    refine lv_iconst (v := (1 : Int32)) hx hb dX3_isAlike_51 (by decide) ?_
    cases h
    exact gx_zret hx hb hr hlocks (by decide) hG dX3_isAlike_52
  have n20 : ∀ (k20 : Int32 → (Nat → Int32) → (Nat → Int32) → Option (Int32 × (Nat → Int32) × (Nat → Int32))) (hk20 : ∀ (x3 : Int32) (v_keys : Nat → Int32) (v_otherKeys : Nat → Int32) (H : Heap) (locs : List Loc) (ls : Array Slot), lv_has ls 4 [(0, .ref (g.2.1 41)), (3, .int x3)] → GW g s (mkS σ [] [] [(48, v_keys), (49, v_otherKeys)] []) H locs → k20 x3 v_keys v_otherKeys = some (r, w_keys, w_otherKeys) → Wg p l e 2 50 s m args below meth c g (some (.int r)) (mkS σ [] [] [(48, w_keys), (49, w_otherKeys)] []) H locs (F0 m 20 ls [])) (x3 : Int32) (v_keys : Nat → Int32) (v_otherKeys : Nat → Int32) (H : Heap) (locs : List Loc) (ls : Array Slot), lv_has ls 4 [(0, .ref (g.2.1 41)), (3, .int x3)] → GW g s (mkS σ [] [] [(48, v_keys), (49, v_otherKeys)] []) H locs → Pr_isAlike_n20 k20 (σ.1 2633) x3 v_keys v_otherKeys = some (r, w_keys, w_otherKeys) → Wg p l e 2 50 s m args below meth c g (some (.int r)) (mkS σ [] [] [(48, w_keys), (49, w_otherKeys)] []) H locs (F0 m 20 ls []) := by
    intro k20 hk20 x3 v_keys v_otherKeys H locs ls hl hG h
    unfold Pr_isAlike_n20 at h
    refine lv_iload_n hx hb dX3_isAlike_20 rfl (lv_at hl 1 rfl) ?_
    refine lv_aload_n hx hb dX3_isAlike_21 rfl (lv_at hl 0 rfl) ?_
    refine gx_get (v := .int (σ.1 2633)) (C := RX3) (T := TX3) (N := 11) hx hb hts mc_X3 hown hK hG (ga_41 g _) rfl 9 (by decide) hw0 rfl rfl dX3_isAlike_22 ?_
    refine lv_icmp_ge (tgt := 51) hx hb dX3_isAlike_25 (by decide) (fun c1 => ?_) (fun c1 => ?_)
    · have h := ite_t c1 h
      exact n51 v_keys v_otherKeys _ _ _ (lv_sub hl [] rfl) hG h
    · have h := ite_f c1 h
      refine lv_aload_n hx hb dX3_isAlike_28 rfl (lv_at hl 0 rfl) ?_
      refine gx_get (v := .ref (g.2.1 48)) (C := RX3) (T := TX3) (N := 11) hx hb hts mc_X3 hown hK hG (ga_41 g _) rfl 6 (by decide) hw1 rfl rfl dX3_isAlike_29 ?_
      refine lv_iload_n hx hb dX3_isAlike_32 rfl (lv_at hl 1 rfl) ?_
      obtain ⟨hg2, h⟩ := gd_some h
      refine gx_iald (f := v_keys) hx hb hK hG (ga_48 g _) hg2 dX3_isAlike_33 ?_
      refine lv_aload_n hx hb dX3_isAlike_34 rfl (lv_at hl 0 rfl) ?_
      refine gx_get (v := .ref (g.2.1 49)) (C := RX3) (T := TX3) (N := 11) hx hb hts mc_X3 hown hK hG (ga_41 g _) rfl 7 (by decide) hw2 rfl rfl dX3_isAlike_35 ?_
      refine lv_iload_n hx hb dX3_isAlike_38 rfl (lv_at hl 1 rfl) ?_
      refine gx_iald (f := v_otherKeys) hx hb hK hG (ga_49 g _) hg2 dX3_isAlike_39 ?_
      refine lv_icmp_eq (tgt := 45) hx hb dX3_isAlike_40 (by decide) (fun c3 => ?_) (fun c3 => ?_)
      · have h := ite_t c3 h
        refine lv_iinc (v := (x3 + (1 : Int32))) (lv' := [(3, .int (x3 + (1 : Int32))), (0, .ref (g.2.1 41))]) hx hb dX3_isAlike_45 hl (k := 1) rfl (congrArg (fun z => x3 + z) (by decide)) (Nat.le_of_ble_eq_true rfl) rfl (fun ls hl => ?_)
        refine lv_goto (tgt := 20) hx hb dX3_isAlike_48 (by decide) ?_
        exact hk20 (x3 + (1 : Int32)) v_keys v_otherKeys _ _ _ (lv_sub hl [1, 0] rfl) hG h
      · have h := ite_f c3 h
        exact n43 v_keys v_otherKeys _ _ _ (lv_sub hl [] rfl) hG h
  have l20 : ∀  (F : Nat) (x3 : Int32) (v_keys : Nat → Int32) (v_otherKeys : Nat → Int32) (H : Heap) (locs : List Loc) (ls : Array Slot), lv_has ls 4 [(0, .ref (g.2.1 41)), (3, .int x3)] → GW g s (mkS σ [] [] [(48, v_keys), (49, v_otherKeys)] []) H locs → Pr_isAlike_l20 (σ.1 2633) F x3 v_keys v_otherKeys = some (r, w_keys, w_otherKeys) → Wg p l e 2 50 s m args below meth c g (some (.int r)) (mkS σ [] [] [(48, w_keys), (49, w_otherKeys)] []) H locs (F0 m 20 ls []) := by
    intro F
    induction F with
    | zero => intro x3 v_keys v_otherKeys H locs ls hl hG h; exact no_some h
    | succ F ih => intro x3 v_keys v_otherKeys H locs ls hl hG h; exact n20 (fun x3 v_keys v_otherKeys => Pr_isAlike_l20 (σ.1 2633) F x3 v_keys v_otherKeys) ih x3 v_keys v_otherKeys H locs ls hl hG h
  refine lv_aload_n hx hb dX3_isAlike_0 rfl (lv_at hl 0 rfl) ?_
  refine lv_aload_n hx hb dX3_isAlike_1 rfl (lv_at hl 0 rfl) ?_
  refine gx_get (v := .ref (g.2.1 48)) (C := RX3) (T := TX3) (N := 11) hx hb hts mc_X3 hown hK hG (ga_41 g _) rfl 6 (by decide) hw1 rfl rfl dX3_isAlike_2 ?_
  refine lv_iload_n hx hb dX3_isAlike_5 rfl (lv_at hl 1 rfl) ?_
  obtain ⟨z4, hc5, h⟩ := bnd_some h
  refine gx_cV (σ' := (mkS σ [] [] [(48, z4), (49, (σ.2.2.1 49))] [])) (r := none) (rest := []) (As := [.ref (g.2.1 48), .int x1]) hS9 (c_Pr_gather_41_48 l g (mkS σ [] [] [(48, (σ.2.2.1 48)), (49, (σ.2.2.1 49))] []) x1 z4 hc5) (mk_mk rfl rfl rfl rfl) (cwV 2 hts (gz_V mw_4_115 mw_4_117 ms_3_2 mw_1_10 mw_4_118) rfl rfl rfl hdV_X3_gather ⟨Nat.le_of_ble_eq_true rfl, Nat.le_of_ble_eq_true rfl⟩) hK hG (ga_41 g _) rfl rfl rfl hl.1 rfl (Nat.le_of_ble_eq_true rfl) dX3_isAlike_6 (fun H locs hG => ?_)
  refine W.eq (g2 := F0 m 9 ls []) rfl ?_
  refine lv_aload_n hx hb dX3_isAlike_9 rfl (lv_at hl 0 rfl) ?_
  refine lv_aload_n hx hb dX3_isAlike_10 rfl (lv_at hl 0 rfl) ?_
  refine gx_get (v := .ref (g.2.1 49)) (C := RX3) (T := TX3) (N := 11) hx hb hts mc_X3 hown hK hG (ga_41 g _) rfl 7 (by decide) hw2 rfl rfl dX3_isAlike_11 ?_
  refine lv_iload_n hx hb dX3_isAlike_14 rfl (lv_at hl 2 rfl) ?_
  obtain ⟨z6, hc7, h⟩ := bnd_some h
  refine gx_cV (σ' := (mkS σ [] [] [(48, z4), (49, z6)] [])) (r := none) (rest := []) (As := [.ref (g.2.1 49), .int x2]) hS9 (c_Pr_gather_41_49 l g (mkS σ [] [] [(48, z4), (49, (σ.2.2.1 49))] []) x2 z6 hc7) (mk_mk rfl rfl rfl rfl) (cwV 2 hts (gz_V mw_4_115 mw_4_117 ms_3_2 mw_1_10 mw_4_118) rfl rfl rfl hdV_X3_gather ⟨Nat.le_of_ble_eq_true rfl, Nat.le_of_ble_eq_true rfl⟩) hK hG (ga_41 g _) rfl rfl rfl hl.1 rfl (Nat.le_of_ble_eq_true rfl) dX3_isAlike_15 (fun H locs hG => ?_)
  refine W.eq (g2 := F0 m 18 ls []) rfl ?_
  refine lv_iconst (v := (0 : Int32)) hx hb dX3_isAlike_18 (by decide) ?_
  refine lv_istore_n (lv' := [(3, .int (0 : Int32)), (0, .ref (g.2.1 41)), (1, .int x1), (2, .int x2)]) hx hb dX3_isAlike_19 rfl hl (Nat.le_of_ble_eq_true rfl) rfl (fun ls hl => ?_)
  exact l20 FUEL (0 : Int32) z4 z6 _ _ _ (lv_sub hl [1, 0] rfl) hG h

set_option maxHeartbeats 4000000 in
set_option maxRecDepth 100000 in
theorem c_Pr_match (l : Launch) (g : GC) (σ : St) (x1 : Int32) (x2 : Int64) (x4 : Int32) (r : Int32) (w_keys : Nat → Int32) (w_otherKeys : Nat → Int32) (h : Pr_match x1 x2 x4 (σ.1 2633) (σ.2.2.1 44) (σ.2.2.1 45) (σ.2.2.1 48) (σ.2.2.1 46) (σ.2.2.1 49) (σ.2.2.1 42) (σ.2.2.2 47) = some (r, w_keys, w_otherKeys)) : Cn l g yX3_match (Cond.code yX3_match cX3_match 7 (some .int) :: wG) 3 73 [.ref (g.2.1 41), .int x1, .long x2, .int x4] σ (some (.int r)) (mkS σ [] [] [(48, w_keys), (49, w_otherKeys)] []) := by
  unfold Cn
  refine Met.ofW (cc := cX3_match) (maxL := 7) (ret := (some .int)) (by decide) rfl ?_
  intro p e s m args below meth c s₁ B hml hv
  obtain ⟨hargs, hP0, hK⟩ := hv
  have hx := B.exec
  have hb := B.bytes
  have hr := B.returns
  have hts : ∀ w ∈ wG, w.before args s = true := fun w h => atoms_spec (ws := (Cond.code yX3_match cX3_match 7 (some .int) :: wG)) B.pre w (List.mem_cons_of_mem _ h)
  have hown : s.vm.findClass RX3 = some m.cls := findClass_of_methodNamed B.named
  have hlocks := B.notSynchronized
  have hS9 : CallFix p m c cX3_match 7 s args wG RX3 := ⟨hx, hb, hml, hown, hts⟩
  have hw0 := hts _ mw_2_5
  have hw1 := hts _ mw_2_6
  have hw2 := hts _ mw_2_3
  have hw3 := hts _ mw_2_4
  have hw4 := hts _ mw_2_1
  have hf9 : entryFrame m args 7 = _ := (congrArg (fun a => entryFrame m a 7) hargs).trans (lg_entry_eq m [.ref (g.2.1 41), .int x1, .long x2, .int x4] 7)
  show Wg p l e 3 73 s m args below meth c g (some (.int r)) (mkS σ [] [] [(48, w_keys), (49, w_otherKeys)] []) s.heap [] (entryFrame m args 7)
  rw [hf9]
  have hl := lv_entry ([.ref (g.2.1 41), .int x1, .long x2, .int x4]) (n := 7) (Nat.le_of_ble_eq_true rfl)
  generalize (lg_sl ([.ref (g.2.1 41), .int x1, .long x2, .int x4]) ++ List.replicate (7 - (lg_sl ([.ref (g.2.1 41), .int x1, .long x2, .int x4])).length) Slot.unset).toArray = ls at hl ⊢
  have hl : lv_has ls 7 [(0, .ref (g.2.1 41)), (1, .int x1), (2, .long x2), (4, .int x4)] := hl
  have hG : GW g s σ s.heap [] := ⟨hP0, va_S.rf⟩
  have hG : GW g s (mkS σ [] [] [(48, (σ.2.2.1 48)), (49, (σ.2.2.1 49))] []) s.heap [] := GW_self [] [] [48, 49] [] hG
  unfold Pr_match at h
  have n61 : ∀ (x5 : Int32) (v_keys : Nat → Int32) (v_otherKeys : Nat → Int32) (H : Heap) (locs : List Loc) (ls : Array Slot), lv_has ls 7 [(5, .int x5)] → GW g s (mkS σ [] [] [(48, v_keys), (49, v_otherKeys)] []) H locs → Pr_match_n61 x5 v_keys v_otherKeys = some (r, w_keys, w_otherKeys) → Wg p l e 3 73 s m args below meth c g (some (.int r)) (mkS σ [] [] [(48, w_keys), (49, w_otherKeys)] []) H locs (F0 m 61 ls []) := by
    intro x5 v_keys v_otherKeys H locs ls hl hG h
    unfold Pr_match_n61 at h
    refine lv_iload hx hb dX3_match_61 (lv_at hl 0 rfl) ?_
    cases h
    exact gx_iret hx hb hr hlocks hG dX3_match_63
  have n64 : ∀ (k16 : Int32 → Int64 → Int32 → Int32 → Int32 → (Nat → Int32) → (Nat → Int32) → Option (Int32 × (Nat → Int32) × (Nat → Int32))) (hk16 : ∀ (x1 : Int32) (x2 : Int64) (x4 : Int32) (x5 : Int32) (x6 : Int32) (v_keys : Nat → Int32) (v_otherKeys : Nat → Int32) (H : Heap) (locs : List Loc) (ls : Array Slot), lv_has ls 7 [(0, .ref (g.2.1 41)), (1, .int x1), (2, .long x2), (4, .int x4), (5, .int x5), (6, .int x6)] → GW g s (mkS σ [] [] [(48, v_keys), (49, v_otherKeys)] []) H locs → k16 x1 x2 x4 x5 x6 v_keys v_otherKeys = some (r, w_keys, w_otherKeys) → Wg p l e 3 73 s m args below meth c g (some (.int r)) (mkS σ [] [] [(48, w_keys), (49, w_otherKeys)] []) H locs (F0 m 16 ls [])) (x1 : Int32) (x2 : Int64) (x4 : Int32) (x5 : Int32) (x6 : Int32) (v_keys : Nat → Int32) (v_otherKeys : Nat → Int32) (H : Heap) (locs : List Loc) (ls : Array Slot), lv_has ls 7 [(0, .ref (g.2.1 41)), (1, .int x1), (2, .long x2), (4, .int x4), (5, .int x5), (6, .int x6)] → GW g s (mkS σ [] [] [(48, v_keys), (49, v_otherKeys)] []) H locs → Pr_match_n64 k16 (σ.2.2.1 46) x1 x2 x4 x5 x6 v_keys v_otherKeys = some (r, w_keys, w_otherKeys) → Wg p l e 3 73 s m args below meth c g (some (.int r)) (mkS σ [] [] [(48, w_keys), (49, w_otherKeys)] []) H locs (F0 m 64 ls []) := by
    intro k16 hk16 x1 x2 x4 x5 x6 v_keys v_otherKeys H locs ls hl hG h
    unfold Pr_match_n64 at h
    refine lv_aload_n hx hb dX3_match_64 rfl (lv_at hl 0 rfl) ?_
    refine gx_get (v := .ref (g.2.1 46)) (C := RX3) (T := TX3) (N := 11) hx hb hts mc_X3 hown hK hG (ga_41 g _) rfl 4 (by decide) hw0 rfl rfl dX3_match_65 ?_
    refine lv_iload hx hb dX3_match_68 (lv_at hl 4 rfl) ?_
    obtain ⟨hg1, h⟩ := gd_some h
    refine gx_iald (f := (σ.2.2.1 46)) hx hb hK hG (ga_46 g _) hg1 dX3_match_70 ?_
    refine lv_istore (lv' := [(5, .int ((σ.2.2.1 46) (x5.toNatClampNeg))), (0, .ref (g.2.1 41)), (1, .int x1), (2, .long x2), (4, .int x4), (6, .int x6)]) hx hb dX3_match_71 hl (Nat.le_of_ble_eq_true rfl) rfl (fun ls hl => ?_)
    refine lv_iinc (v := (x6 + (1 : Int32))) (lv' := [(6, .int (x6 + (1 : Int32))), (5, .int ((σ.2.2.1 46) (x5.toNatClampNeg))), (0, .ref (g.2.1 41)), (1, .int x1), (2, .long x2), (4, .int x4)]) hx hb dX3_match_73 hl (k := 5) rfl (congrArg (fun z => x6 + z) (by decide)) (Nat.le_of_ble_eq_true rfl) rfl (fun ls hl => ?_)
    refine lv_goto (tgt := 16) hx hb dX3_match_76 (by decide) ?_
    exact hk16 x1 x2 x4 ((σ.2.2.1 46) (x5.toNatClampNeg)) (x6 + (1 : Int32)) v_keys v_otherKeys _ _ _ (lv_sub hl [2, 3, 4, 5, 1, 0] rfl) hG h
  have n79 : ∀ (v_keys : Nat → Int32) (v_otherKeys : Nat → Int32) (H : Heap) (locs : List Loc) (ls : Array Slot), lv_has ls 7 [] → GW g s (mkS σ [] [] [(48, v_keys), (49, v_otherKeys)] []) H locs → Pr_match_n79 v_keys v_otherKeys = some (r, w_keys, w_otherKeys) → Wg p l e 3 73 s m args below meth c g (some (.int r)) (mkS σ [] [] [(48, w_keys), (49, w_otherKeys)] []) H locs (F0 m 79 ls []) := by
    intro v_keys v_otherKeys H locs ls hl hG h
    unfold Pr_match_n79 at h
    refine lv_iconst (v := (-1 : Int32)) hx hb dX3_match_79 (by decide) ?_
    cases h
    exact gx_iret hx hb hr hlocks hG dX3_match_80
  have n16 : ∀ (k16 : Int32 → Int64 → Int32 → Int32 → Int32 → (Nat → Int32) → (Nat → Int32) → Option (Int32 × (Nat → Int32) × (Nat → Int32))) (hk16 : ∀ (x1 : Int32) (x2 : Int64) (x4 : Int32) (x5 : Int32) (x6 : Int32) (v_keys : Nat → Int32) (v_otherKeys : Nat → Int32) (H : Heap) (locs : List Loc) (ls : Array Slot), lv_has ls 7 [(0, .ref (g.2.1 41)), (1, .int x1), (2, .long x2), (4, .int x4), (5, .int x5), (6, .int x6)] → GW g s (mkS σ [] [] [(48, v_keys), (49, v_otherKeys)] []) H locs → k16 x1 x2 x4 x5 x6 v_keys v_otherKeys = some (r, w_keys, w_otherKeys) → Wg p l e 3 73 s m args below meth c g (some (.int r)) (mkS σ [] [] [(48, w_keys), (49, w_otherKeys)] []) H locs (F0 m 16 ls [])) (x1 : Int32) (x2 : Int64) (x4 : Int32) (x5 : Int32) (x6 : Int32) (v_keys : Nat → Int32) (v_otherKeys : Nat → Int32) (H : Heap) (locs : List Loc) (ls : Array Slot), lv_has ls 7 [(0, .ref (g.2.1 41)), (1, .int x1), (2, .long x2), (4, .int x4), (5, .int x5), (6, .int x6)] → GW g s (mkS σ [] [] [(48, v_keys), (49, v_otherKeys)] []) H locs → Pr_match_n16 k16 (σ.1 2633) (σ.2.2.1 44) (σ.2.2.1 46) (σ.2.2.1 42) (σ.2.2.2 47) x1 x2 x4 x5 x6 v_keys v_otherKeys = some (r, w_keys, w_otherKeys) → Wg p l e 3 73 s m args below meth c g (some (.int r)) (mkS σ [] [] [(48, w_keys), (49, w_otherKeys)] []) H locs (F0 m 16 ls []) := by
    intro k16 hk16 x1 x2 x4 x5 x6 v_keys v_otherKeys H locs ls hl hG h
    unfold Pr_match_n16 at h
    refine lv_iload hx hb dX3_match_16 (lv_at hl 5 rfl) ?_
    refine lv_sipush (v := (1024 : Int32)) hx hb dX3_match_18 (by decide) ?_
    refine lv_icmp_ge (tgt := 79) hx hb dX3_match_21 (by decide) (fun c2 => ?_) (fun c2 => ?_)
    · have h := ite_t c2 h
      exact n79 v_keys v_otherKeys _ _ _ (lv_sub hl [] rfl) hG h
    · have h := ite_f c2 h
      refine lv_iload hx hb dX3_match_24 (lv_at hl 4 rfl) ?_
      refine lv_if_lt (tgt := 79) hx hb dX3_match_26 (by decide) (fun c3 => ?_) (fun c3 => ?_)
      · have h := ite_t c3 h
        exact n79 v_keys v_otherKeys _ _ _ (lv_sub hl [] rfl) hG h
      · have h := ite_f c3 h
        refine lv_aload_n hx hb dX3_match_29 rfl (lv_at hl 0 rfl) ?_
        refine gx_get (v := .ref (g.2.1 47)) (C := RX3) (T := TX3) (N := 11) hx hb hts mc_X3 hown hK hG (ga_41 g _) rfl 5 (by decide) hw1 rfl rfl dX3_match_30 ?_
        refine lv_iload hx hb dX3_match_33 (lv_at hl 4 rfl) ?_
        obtain ⟨hg4, h⟩ := gd_some h
        refine gx_lald (f := (σ.2.2.2 47)) hx hb hK hG (ga_47 g _) hg4 dX3_match_35 ?_
        refine lv_lload_n hx hb dX3_match_36 rfl (lv_at hl 2 rfl) ?_
        refine W.lcmp hx hb dX3_match_37 ?_
        refine lv_if_ne (tgt := 64) hx hb dX3_match_38 (by decide) (fun c5 => ?_) (fun c5 => ?_)
        · have h := ite_f c5 h
          exact n64 k16 hk16 x1 x2 x4 x5 x6 v_keys v_otherKeys _ _ _ (lv_sub hl [0, 1, 2, 3, 4, 5] rfl) hG h
        · have h := ite_t c5 h
          refine lv_iload hx hb dX3_match_41 (lv_at hl 3 rfl) ?_
          refine lv_if_eq (tgt := 61) hx hb dX3_match_43 (by decide) (fun c6 => ?_) (fun c6 => ?_)
          · have h := ite_t c6 h
            exact n61 x5 v_keys v_otherKeys _ _ _ (lv_sub hl [4] rfl) hG h
          · have h := ite_f c6 h
            refine lv_aload_n hx hb dX3_match_46 rfl (lv_at hl 0 rfl) ?_
            refine lv_iload_n hx hb dX3_match_47 rfl (lv_at hl 1 rfl) ?_
            refine lv_aload_n hx hb dX3_match_48 rfl (lv_at hl 0 rfl) ?_
            refine gx_get (v := .ref (g.2.1 44)) (C := RX3) (T := TX3) (N := 11) hx hb hts mc_X3 hown hK hG (ga_41 g _) rfl 2 (by decide) hw2 rfl rfl dX3_match_49 ?_
            refine lv_iload hx hb dX3_match_52 (lv_at hl 4 rfl) ?_
            refine gx_iald (f := (σ.2.2.1 44)) hx hb hK hG (ga_44 g _) hg4 dX3_match_54 ?_
            obtain ⟨z7, hc8, h⟩ := bnd_some h
            refine gx_cV (σ' := (mkS σ [] [] [(48, z7.2.1), (49, z7.2.2)] [])) (r := (some (.int z7.1))) (rest := []) (As := [.int x1, .int ((σ.2.2.1 44) (x5.toNatClampNeg))]) hS9 (c_Pr_isAlike l g (mkS σ [] [] [(48, v_keys), (49, v_otherKeys)] []) x1 ((σ.2.2.1 44) (x5.toNatClampNeg)) z7.1 z7.2.1 z7.2.2 hc8) (mk_mk rfl rfl rfl rfl) (cwV 2 hts (gz_V mw_4_111 mw_4_113 ms_3_1 mw_1_10 mw_4_114) rfl rfl rfl hdV_X3_isAlike ⟨Nat.le_of_ble_eq_true rfl, Nat.le_of_ble_eq_true rfl⟩) hK hG (ga_41 g _) rfl rfl rfl hl.1 rfl (Nat.le_of_ble_eq_true rfl) dX3_match_55 (fun H locs hG => ?_)
            refine W.eq (g2 := F0 m 58 ls [.int z7.1]) rfl ?_
            refine lv_if_eq (tgt := 64) hx hb dX3_match_58 (by decide) (fun c9 => ?_) (fun c9 => ?_)
            · have h := ite_t c9 h
              exact n64 k16 hk16 x1 x2 x4 x5 x6 z7.2.1 z7.2.2 _ _ _ (lv_sub hl [0, 1, 2, 3, 4, 5] rfl) hG h
            · have h := ite_f c9 h
              exact n61 x5 z7.2.1 z7.2.2 _ _ _ (lv_sub hl [4] rfl) hG h
  have l16 : ∀  (F : Nat) (x1 : Int32) (x2 : Int64) (x4 : Int32) (x5 : Int32) (x6 : Int32) (v_keys : Nat → Int32) (v_otherKeys : Nat → Int32) (H : Heap) (locs : List Loc) (ls : Array Slot), lv_has ls 7 [(0, .ref (g.2.1 41)), (1, .int x1), (2, .long x2), (4, .int x4), (5, .int x5), (6, .int x6)] → GW g s (mkS σ [] [] [(48, v_keys), (49, v_otherKeys)] []) H locs → Pr_match_l16 (σ.1 2633) (σ.2.2.1 44) (σ.2.2.1 46) (σ.2.2.1 42) (σ.2.2.2 47) F x1 x2 x4 x5 x6 v_keys v_otherKeys = some (r, w_keys, w_otherKeys) → Wg p l e 3 73 s m args below meth c g (some (.int r)) (mkS σ [] [] [(48, w_keys), (49, w_otherKeys)] []) H locs (F0 m 16 ls []) := by
    intro F
    induction F with
    | zero => intro x1 x2 x4 x5 x6 v_keys v_otherKeys H locs ls hl hG h; exact no_some h
    | succ F ih => intro x1 x2 x4 x5 x6 v_keys v_otherKeys H locs ls hl hG h; exact n16 (fun x1 x2 x4 x5 x6 v_keys v_otherKeys => Pr_match_l16 (σ.1 2633) (σ.2.2.1 44) (σ.2.2.1 46) (σ.2.2.1 42) (σ.2.2.2 47) F x1 x2 x4 x5 x6 v_keys v_otherKeys) ih x1 x2 x4 x5 x6 v_keys v_otherKeys H locs ls hl hG h
  refine lv_aload_n hx hb dX3_match_0 rfl (lv_at hl 0 rfl) ?_
  refine gx_get (v := .ref (g.2.1 45)) (C := RX3) (T := TX3) (N := 11) hx hb hts mc_X3 hown hK hG (ga_41 g _) rfl 3 (by decide) hw3 rfl rfl dX3_match_1 ?_
  refine lv_aload_n hx hb dX3_match_4 rfl (lv_at hl 0 rfl) ?_
  refine gx_get (v := .ref (g.2.1 42)) (C := RX3) (T := TX3) (N := 11) hx hb hts mc_X3 hown hK hG (ga_41 g _) rfl 0 (by decide) hw4 rfl rfl dX3_match_5 ?_
  refine lv_iload_n hx hb dX3_match_8 rfl (lv_at hl 1 rfl) ?_
  obtain ⟨hg10, h⟩ := gd_some h
  refine gx_iald (f := (σ.2.2.1 42)) hx hb hK hG (ga_42 g _) hg10 dX3_match_9 ?_
  obtain ⟨hg11, h⟩ := gd_some h
  refine gx_iald (f := (σ.2.2.1 45)) hx hb hK hG (ga_45 g _) hg11 dX3_match_10 ?_
  refine lv_istore (lv' := [(5, .int ((σ.2.2.1 45) (((σ.2.2.1 42) (x1.toNatClampNeg)).toNatClampNeg))), (0, .ref (g.2.1 41)), (1, .int x1), (2, .long x2), (4, .int x4)]) hx hb dX3_match_11 hl (Nat.le_of_ble_eq_true rfl) rfl (fun ls hl => ?_)
  refine lv_iconst (v := (0 : Int32)) hx hb dX3_match_13 (by decide) ?_
  refine lv_istore (lv' := [(6, .int (0 : Int32)), (5, .int ((σ.2.2.1 45) (((σ.2.2.1 42) (x1.toNatClampNeg)).toNatClampNeg))), (0, .ref (g.2.1 41)), (1, .int x1), (2, .long x2), (4, .int x4)]) hx hb dX3_match_14 hl (Nat.le_of_ble_eq_true rfl) rfl (fun ls hl => ?_)
  exact l16 FUEL x1 x2 x4 ((σ.2.2.1 45) (((σ.2.2.1 42) (x1.toNatClampNeg)).toNatClampNeg)) (0 : Int32) (σ.2.2.1 48) (σ.2.2.1 49) _ _ _ (lv_sub hl [2, 3, 4, 5, 1, 0] rfl) hG h

set_option maxHeartbeats 4000000 in
set_option maxRecDepth 100000 in
theorem c_Pr_open (l : Launch) (g : GC) (σ : St) (x1 : Int32) (x2 : Int64) (r : Int32) (w_count : Int32) (w_firsts : Nat → Int32) (w_heads : Nat → Int32) (w_nexts : Nat → Int32) (w_sums : Nat → Int64) (h : Pr_open x1 x2 (σ.1 2634) (σ.2.2.1 44) (σ.2.2.1 45) (σ.2.2.1 46) (σ.2.2.1 42) (σ.2.2.2 47) = some (r, w_count, w_firsts, w_heads, w_nexts, w_sums)) : Cn l g yX3_open (Cond.code yX3_open cX3_open 5 (some .int) :: wG) 0 0 [.ref (g.2.1 41), .int x1, .long x2] σ (some (.int r)) (mkS σ [(2634, w_count)] [] [(44, w_firsts), (45, w_heads), (46, w_nexts)] [(47, w_sums)]) := by
  unfold Cn
  refine Met.ofW (cc := cX3_open) (maxL := 5) (ret := (some .int)) (by decide) rfl ?_
  intro p e s m args below meth c s₁ B hml hv
  obtain ⟨hargs, hP0, hK⟩ := hv
  have hx := B.exec
  have hb := B.bytes
  have hr := B.returns
  have hts : ∀ w ∈ wG, w.before args s = true := fun w h => atoms_spec (ws := (Cond.code yX3_open cX3_open 5 (some .int) :: wG)) B.pre w (List.mem_cons_of_mem _ h)
  have hown : s.vm.findClass RX3 = some m.cls := findClass_of_methodNamed B.named
  have hlocks := B.notSynchronized
  have hw0 := hts _ mw_2_12
  have hw1 := hts _ mw_2_3
  have hw2 := hts _ mw_2_6
  have hw3 := hts _ mw_2_5
  have hw4 := hts _ mw_2_4
  have hw5 := hts _ mw_2_1
  have hf9 : entryFrame m args 5 = _ := (congrArg (fun a => entryFrame m a 5) hargs).trans (lg_entry_eq m [.ref (g.2.1 41), .int x1, .long x2] 5)
  show Wg p l e 0 0 s m args below meth c g (some (.int r)) (mkS σ [(2634, w_count)] [] [(44, w_firsts), (45, w_heads), (46, w_nexts)] [(47, w_sums)]) s.heap [] (entryFrame m args 5)
  rw [hf9]
  have hl := lv_entry ([.ref (g.2.1 41), .int x1, .long x2]) (n := 5) (Nat.le_of_ble_eq_true rfl)
  generalize (lg_sl ([.ref (g.2.1 41), .int x1, .long x2]) ++ List.replicate (5 - (lg_sl ([.ref (g.2.1 41), .int x1, .long x2])).length) Slot.unset).toArray = ls at hl ⊢
  have hl : lv_has ls 5 [(0, .ref (g.2.1 41)), (1, .int x1), (2, .long x2)] := hl
  have hG : GW g s σ s.heap [] := ⟨hP0, va_S.rf⟩
  have hG : GW g s (mkS σ [(2634, (σ.1 2634))] [] [(44, (σ.2.2.1 44)), (45, (σ.2.2.1 45)), (46, (σ.2.2.1 46))] [(47, (σ.2.2.2 47))]) s.heap [] := GW_self [2634] [] [44, 45, 46] [47] hG
  unfold Pr_open at h
  refine lv_aload_n hx hb dX3_open_0 rfl (lv_at hl 0 rfl) ?_
  refine gx_get (v := .int (σ.1 2634)) (C := RX3) (T := TX3) (N := 11) hx hb hts mc_X3 hown hK hG (ga_41 g _) rfl 10 (by decide) hw0 rfl rfl dX3_open_1 ?_
  refine lv_istore (lv' := [(4, .int (σ.1 2634)), (0, .ref (g.2.1 41)), (1, .int x1), (2, .long x2)]) hx hb dX3_open_4 hl (Nat.le_of_ble_eq_true rfl) rfl (fun ls hl => ?_)
  refine lv_aload_n hx hb dX3_open_6 rfl (lv_at hl 1 rfl) ?_
  refine gx_get (v := .ref (g.2.1 44)) (C := RX3) (T := TX3) (N := 11) hx hb hts mc_X3 hown hK hG (ga_41 g _) rfl 2 (by decide) hw1 rfl rfl dX3_open_7 ?_
  refine lv_iload hx hb dX3_open_10 (lv_at hl 0 rfl) ?_
  refine lv_iload_n hx hb dX3_open_12 rfl (lv_at hl 2 rfl) ?_
  obtain ⟨hg1, h⟩ := gd_some h
  refine gx_iast (σ' := (mkS σ [(2634, (σ.1 2634))] [] [(44, (upd (σ.2.2.1 44) ((σ.1 2634).toNatClampNeg) x1)), (45, (σ.2.2.1 45)), (46, (σ.2.2.1 46))] [(47, (σ.2.2.2 47))])) (f := (σ.2.2.1 44)) hx hb hK hG (ga_44 g _) hg1 ((gs_44 g _ _).trans (congrArg (g_cells g) (mk_c 0 rfl rfl))) dX3_open_13 (fun H locs hG => ?_)
  refine lv_aload_n hx hb dX3_open_14 rfl (lv_at hl 1 rfl) ?_
  refine gx_get (v := .ref (g.2.1 47)) (C := RX3) (T := TX3) (N := 11) hx hb hts mc_X3 hown hK hG (ga_41 g _) rfl 5 (by decide) hw2 rfl rfl dX3_open_15 ?_
  refine lv_iload hx hb dX3_open_18 (lv_at hl 0 rfl) ?_
  refine lv_lload_n hx hb dX3_open_20 rfl (lv_at hl 3 rfl) ?_
  refine gx_last (σ' := (mkS σ [(2634, (σ.1 2634))] [] [(44, (upd (σ.2.2.1 44) ((σ.1 2634).toNatClampNeg) x1)), (45, (σ.2.2.1 45)), (46, (σ.2.2.1 46))] [(47, (vp_updL (σ.2.2.2 47) ((σ.1 2634).toNatClampNeg) x2))])) (f := (σ.2.2.2 47)) hx hb hK hG (ga_47 g _) hg1 ((gs_47 g _ _).trans (congrArg (g_cells g) (mk_d 0 rfl rfl))) dX3_open_21 (fun H locs hG => ?_)
  refine lv_aload_n hx hb dX3_open_22 rfl (lv_at hl 1 rfl) ?_
  refine gx_get (v := .ref (g.2.1 46)) (C := RX3) (T := TX3) (N := 11) hx hb hts mc_X3 hown hK hG (ga_41 g _) rfl 4 (by decide) hw3 rfl rfl dX3_open_23 ?_
  refine lv_iload hx hb dX3_open_26 (lv_at hl 0 rfl) ?_
  refine lv_aload_n hx hb dX3_open_28 rfl (lv_at hl 1 rfl) ?_
  refine gx_get (v := .ref (g.2.1 45)) (C := RX3) (T := TX3) (N := 11) hx hb hts mc_X3 hown hK hG (ga_41 g _) rfl 3 (by decide) hw4 rfl rfl dX3_open_29 ?_
  refine lv_aload_n hx hb dX3_open_32 rfl (lv_at hl 1 rfl) ?_
  refine gx_get (v := .ref (g.2.1 42)) (C := RX3) (T := TX3) (N := 11) hx hb hts mc_X3 hown hK hG (ga_41 g _) rfl 0 (by decide) hw5 rfl rfl dX3_open_33 ?_
  refine lv_iload_n hx hb dX3_open_36 rfl (lv_at hl 2 rfl) ?_
  obtain ⟨hg2, h⟩ := gd_some h
  refine gx_iald (f := (σ.2.2.1 42)) hx hb hK hG (ga_42 g _) hg2 dX3_open_37 ?_
  obtain ⟨hg3, h⟩ := gd_some h
  refine gx_iald (f := (σ.2.2.1 45)) hx hb hK hG (ga_45 g _) hg3 dX3_open_38 ?_
  refine gx_iast (σ' := (mkS σ [(2634, (σ.1 2634))] [] [(44, (upd (σ.2.2.1 44) ((σ.1 2634).toNatClampNeg) x1)), (45, (σ.2.2.1 45)), (46, (upd (σ.2.2.1 46) ((σ.1 2634).toNatClampNeg) ((σ.2.2.1 45) (((σ.2.2.1 42) (x1.toNatClampNeg)).toNatClampNeg))))] [(47, (vp_updL (σ.2.2.2 47) ((σ.1 2634).toNatClampNeg) x2))])) (f := (σ.2.2.1 46)) hx hb hK hG (ga_46 g _) hg1 ((gs_46 g _ _).trans (congrArg (g_cells g) (mk_c 2 rfl rfl))) dX3_open_39 (fun H locs hG => ?_)
  refine lv_aload_n hx hb dX3_open_40 rfl (lv_at hl 1 rfl) ?_
  refine gx_get (v := .ref (g.2.1 45)) (C := RX3) (T := TX3) (N := 11) hx hb hts mc_X3 hown hK hG (ga_41 g _) rfl 3 (by decide) hw4 rfl rfl dX3_open_41 ?_
  refine lv_aload_n hx hb dX3_open_44 rfl (lv_at hl 1 rfl) ?_
  refine gx_get (v := .ref (g.2.1 42)) (C := RX3) (T := TX3) (N := 11) hx hb hts mc_X3 hown hK hG (ga_41 g _) rfl 0 (by decide) hw5 rfl rfl dX3_open_45 ?_
  refine lv_iload_n hx hb dX3_open_48 rfl (lv_at hl 2 rfl) ?_
  refine gx_iald (f := (σ.2.2.1 42)) hx hb hK hG (ga_42 g _) hg2 dX3_open_49 ?_
  refine lv_iload hx hb dX3_open_50 (lv_at hl 0 rfl) ?_
  refine gx_iast (σ' := (mkS σ [(2634, (σ.1 2634))] [] [(44, (upd (σ.2.2.1 44) ((σ.1 2634).toNatClampNeg) x1)), (45, (upd (σ.2.2.1 45) (((σ.2.2.1 42) (x1.toNatClampNeg)).toNatClampNeg) (σ.1 2634))), (46, (upd (σ.2.2.1 46) ((σ.1 2634).toNatClampNeg) ((σ.2.2.1 45) (((σ.2.2.1 42) (x1.toNatClampNeg)).toNatClampNeg))))] [(47, (vp_updL (σ.2.2.2 47) ((σ.1 2634).toNatClampNeg) x2))])) (f := (σ.2.2.1 45)) hx hb hK hG (ga_45 g _) hg3 ((gs_45 g _ _).trans (congrArg (g_cells g) (mk_c 1 rfl rfl))) dX3_open_52 (fun H locs hG => ?_)
  refine lv_aload_n hx hb dX3_open_53 rfl (lv_at hl 1 rfl) ?_
  refine lv_dup hx hb dX3_open_54 rfl ?_
  refine gx_get (v := .int (σ.1 2634)) (C := RX3) (T := TX3) (N := 11) hx hb hts mc_X3 hown hK hG (ga_41 g _) rfl 10 (by decide) hw0 rfl rfl dX3_open_55 ?_
  refine lv_iconst (v := (1 : Int32)) hx hb dX3_open_58 (by decide) ?_
  refine lv_iadd hx hb dX3_open_59 ?_
  refine gx_put (σ' := (mkS σ [(2634, ((σ.1 2634) + (1 : Int32)))] [] [(44, (upd (σ.2.2.1 44) ((σ.1 2634).toNatClampNeg) x1)), (45, (upd (σ.2.2.1 45) (((σ.2.2.1 42) (x1.toNatClampNeg)).toNatClampNeg) (σ.1 2634))), (46, (upd (σ.2.2.1 46) ((σ.1 2634).toNatClampNeg) ((σ.2.2.1 45) (((σ.2.2.1 42) (x1.toNatClampNeg)).toNatClampNeg))))] [(47, (vp_updL (σ.2.2.2 47) ((σ.1 2634).toNatClampNeg) x2))])) (C := RX3) (T := TX3) (N := 11) hx hb hts mc_X3 tyX3 tyX3_ok nmX3 hown hK hG (ga_41 g _) rfl 10 (by decide) hw0 rfl rfl rfl rfl (Nat.le_of_ble_eq_true rfl) ((gf_2634 g _ _).trans (congrArg (g_cells g) (mk_a 0 rfl rfl))) dX3_open_60 (fun H locs hG => ?_)
  refine lv_iload hx hb dX3_open_63 (lv_at hl 0 rfl) ?_
  cases h
  exact gx_iret hx hb hr hlocks hG dX3_open_65

set_option maxHeartbeats 4000000 in
set_option maxRecDepth 100000 in
theorem c_Pr_refine (l : Launch) (g : GC) (σ : St) (x1 : Int32) (w_count : Int32) (w_firsts : Nat → Int32) (w_heads : Nat → Int32) (w_keys : Nat → Int32) (w_nexts : Nat → Int32) (w_otherKeys : Nat → Int32) (w_parted : Nat → Int32) (w_sorts : Nat → Int32) (w_sums : Nat → Int64) (h : Pr_refine x1 (σ.1 2634) (σ.1 2633) (σ.2.2.1 44) (σ.2.2.1 45) (σ.2.2.1 48) (σ.2.2.1 46) (σ.2.2.1 49) (σ.2.2.1 43) (σ.2.2.1 42) (σ.2.2.2 47) = some (w_count, w_firsts, w_heads, w_keys, w_nexts, w_otherKeys, w_parted, w_sorts, w_sums)) : Cn l g yX3_refine (Cond.code yX3_refine cX3_refine 8 none :: wG) 4 99 [.ref (g.2.1 41), .int x1] σ none (mkS σ [(2634, w_count)] [] [(44, w_firsts), (45, w_heads), (48, w_keys), (46, w_nexts), (49, w_otherKeys), (43, w_parted), (42, w_sorts)] [(47, w_sums)]) := by
  unfold Cn
  refine Met.ofW (cc := cX3_refine) (maxL := 8) (ret := none) (by decide) rfl ?_
  intro p e s m args below meth c s₁ B hml hv
  obtain ⟨hargs, hP0, hK⟩ := hv
  have hx := B.exec
  have hb := B.bytes
  have hr := B.returns
  have hts : ∀ w ∈ wG, w.before args s = true := fun w h => atoms_spec (ws := (Cond.code yX3_refine cX3_refine 8 none :: wG)) B.pre w (List.mem_cons_of_mem _ h)
  have hown : s.vm.findClass RX3 = some m.cls := findClass_of_methodNamed B.named
  have hlocks := B.notSynchronized
  have hS9 : CallFix p m c cX3_refine 8 s args wG RX3 := ⟨hx, hb, hml, hown, hts⟩
  have hw0 := hts _ mw_2_11
  have hw1 := hts _ mw_2_2
  have hw2 := hts _ mw_2_1
  have hw3 := hts _ mw_4_123
  have hw4 := hts _ mw_2_239
  have hw5 := hts _ mw_2_238
  have hw6 := hts _ mw_1_14
  have hw7 := hts _ mw_2_4
  have hw8 := hts _ mw_2_12
  have hf9 : entryFrame m args 8 = _ := (congrArg (fun a => entryFrame m a 8) hargs).trans (lg_entry_eq m [.ref (g.2.1 41), .int x1] 8)
  show Wg p l e 4 99 s m args below meth c g none (mkS σ [(2634, w_count)] [] [(44, w_firsts), (45, w_heads), (48, w_keys), (46, w_nexts), (49, w_otherKeys), (43, w_parted), (42, w_sorts)] [(47, w_sums)]) s.heap [] (entryFrame m args 8)
  rw [hf9]
  have hl := lv_entry ([.ref (g.2.1 41), .int x1]) (n := 8) (Nat.le_of_ble_eq_true rfl)
  generalize (lg_sl ([.ref (g.2.1 41), .int x1]) ++ List.replicate (8 - (lg_sl ([.ref (g.2.1 41), .int x1])).length) Slot.unset).toArray = ls at hl ⊢
  have hl : lv_has ls 8 [(0, .ref (g.2.1 41)), (1, .int x1)] := hl
  have hG : GW g s σ s.heap [] := ⟨hP0, va_S.rf⟩
  have hG : GW g s (mkS σ [(2634, (σ.1 2634))] [] [(44, (σ.2.2.1 44)), (45, (σ.2.2.1 45)), (48, (σ.2.2.1 48)), (46, (σ.2.2.1 46)), (49, (σ.2.2.1 49)), (43, (σ.2.2.1 43)), (42, (σ.2.2.1 42))] [(47, (σ.2.2.2 47))]) s.heap [] := GW_self [2634] [] [44, 45, 48, 46, 49, 43, 42] [47] hG
  unfold Pr_refine at h
  have n84 : ∀ (k25 : Int32 → Int32 → Int32 → Int32 → (Nat → Int32) → (Nat → Int32) → (Nat → Int32) → (Nat → Int32) → (Nat → Int32) → (Nat → Int32) → (Nat → Int32) → (Nat → Int64) → Option (Int32 × (Nat → Int32) × (Nat → Int32) × (Nat → Int32) × (Nat → Int32) × (Nat → Int32) × (Nat → Int32) × (Nat → Int32) × (Nat → Int64))) (hk25 : ∀ (x1 : Int32) (x2 : Int32) (x3 : Int32) (v_count : Int32) (v_firsts : Nat → Int32) (v_heads : Nat → Int32) (v_keys : Nat → Int32) (v_nexts : Nat → Int32) (v_otherKeys : Nat → Int32) (v_parted : Nat → Int32) (v_sorts : Nat → Int32) (v_sums : Nat → Int64) (H : Heap) (locs : List Loc) (ls : Array Slot), lv_has ls 8 [(0, .ref (g.2.1 41)), (1, .int x1), (2, .int x2), (3, .int x3)] → GW g s (mkS σ [(2634, v_count)] [] [(44, v_firsts), (45, v_heads), (48, v_keys), (46, v_nexts), (49, v_otherKeys), (43, v_parted), (42, v_sorts)] [(47, v_sums)]) H locs → k25 x1 x2 x3 v_count v_firsts v_heads v_keys v_nexts v_otherKeys v_parted v_sorts v_sums = some (w_count, w_firsts, w_heads, w_keys, w_nexts, w_otherKeys, w_parted, w_sorts, w_sums) → Wg p l e 4 99 s m args below meth c g none (mkS σ [(2634, w_count)] [] [(44, w_firsts), (45, w_heads), (48, w_keys), (46, w_nexts), (49, w_otherKeys), (43, w_parted), (42, w_sorts)] [(47, w_sums)]) H locs (F0 m 25 ls [])) (x1 : Int32) (x2 : Int32) (x3 : Int32) (t1 : Int32) (t2 : Int32) (v_count : Int32) (v_firsts : Nat → Int32) (v_heads : Nat → Int32) (v_keys : Nat → Int32) (v_nexts : Nat → Int32) (v_otherKeys : Nat → Int32) (v_parted : Nat → Int32) (v_sorts : Nat → Int32) (v_sums : Nat → Int64) (H : Heap) (locs : List Loc) (ls : Array Slot), lv_has ls 8 [(0, .ref (g.2.1 41)), (1, .int x1), (2, .int x2), (3, .int x3)] → GW g s (mkS σ [(2634, v_count)] [] [(44, v_firsts), (45, v_heads), (48, v_keys), (46, v_nexts), (49, v_otherKeys), (43, v_parted), (42, v_sorts)] [(47, v_sums)]) H locs → Pr_refine_n84 k25 x1 x2 x3 t1 t2 v_count v_firsts v_heads v_keys v_nexts v_otherKeys v_parted v_sorts v_sums = some (w_count, w_firsts, w_heads, w_keys, w_nexts, w_otherKeys, w_parted, w_sorts, w_sums) → Wg p l e 4 99 s m args below meth c g none (mkS σ [(2634, w_count)] [] [(44, w_firsts), (45, w_heads), (48, w_keys), (46, w_nexts), (49, w_otherKeys), (43, w_parted), (42, w_sorts)] [(47, w_sums)]) H locs (F0 m 84 ls [.int t2, .int t1, .ref (g.2.1 43)]) := by
    intro k25 hk25 x1 x2 x3 t1 t2 v_count v_firsts v_heads v_keys v_nexts v_otherKeys v_parted v_sorts v_sums H locs ls hl hG h
    unfold Pr_refine_n84 at h
    obtain ⟨hg1, h⟩ := gd_some h
    refine gx_iast (σ' := (mkS σ [(2634, v_count)] [] [(44, v_firsts), (45, v_heads), (48, v_keys), (46, v_nexts), (49, v_otherKeys), (43, (upd v_parted (t1.toNatClampNeg) t2)), (42, v_sorts)] [(47, v_sums)])) (f := v_parted) hx hb hK hG (ga_43 g _) hg1 ((gs_43 g _ _).trans (congrArg (g_cells g) (mk_c 5 rfl rfl))) dX3_refine_84 (fun H locs hG => ?_)
    refine lv_iinc (v := (x3 + (1 : Int32))) (lv' := [(3, .int (x3 + (1 : Int32))), (0, .ref (g.2.1 41)), (1, .int x1), (2, .int x2)]) hx hb dX3_refine_85 hl (k := 3) rfl (congrArg (fun z => x3 + z) (by decide)) (Nat.le_of_ble_eq_true rfl) rfl (fun ls hl => ?_)
    refine lv_goto (tgt := 25) hx hb dX3_refine_88 (by decide) ?_
    exact hk25 x1 x2 (x3 + (1 : Int32)) v_count v_firsts v_heads v_keys v_nexts v_otherKeys (upd v_parted (t1.toNatClampNeg) t2) v_sorts v_sums _ _ _ (lv_sub hl [1, 2, 3, 0] rfl) hG h
  have n91 : ∀ (k15 : Int32 → Int32 → Int32 → (Nat → Int32) → (Nat → Int32) → (Nat → Int32) → (Nat → Int32) → (Nat → Int32) → (Nat → Int32) → (Nat → Int32) → (Nat → Int64) → Option (Int32 × (Nat → Int32) × (Nat → Int32) × (Nat → Int32) × (Nat → Int32) × (Nat → Int32) × (Nat → Int32) × (Nat → Int32) × (Nat → Int64))) (hk15 : ∀ (x1 : Int32) (x2 : Int32) (v_count : Int32) (v_firsts : Nat → Int32) (v_heads : Nat → Int32) (v_keys : Nat → Int32) (v_nexts : Nat → Int32) (v_otherKeys : Nat → Int32) (v_parted : Nat → Int32) (v_sorts : Nat → Int32) (v_sums : Nat → Int64) (H : Heap) (locs : List Loc) (ls : Array Slot), lv_has ls 8 [(0, .ref (g.2.1 41)), (1, .int x1), (2, .int x2)] → GW g s (mkS σ [(2634, v_count)] [] [(44, v_firsts), (45, v_heads), (48, v_keys), (46, v_nexts), (49, v_otherKeys), (43, v_parted), (42, v_sorts)] [(47, v_sums)]) H locs → k15 x1 x2 v_count v_firsts v_heads v_keys v_nexts v_otherKeys v_parted v_sorts v_sums = some (w_count, w_firsts, w_heads, w_keys, w_nexts, w_otherKeys, w_parted, w_sorts, w_sums) → Wg p l e 4 99 s m args below meth c g none (mkS σ [(2634, w_count)] [] [(44, w_firsts), (45, w_heads), (48, w_keys), (46, w_nexts), (49, w_otherKeys), (43, w_parted), (42, w_sorts)] [(47, w_sums)]) H locs (F0 m 15 ls [])) (x1 : Int32) (x2 : Int32) (v_count : Int32) (v_firsts : Nat → Int32) (v_heads : Nat → Int32) (v_keys : Nat → Int32) (v_nexts : Nat → Int32) (v_otherKeys : Nat → Int32) (v_parted : Nat → Int32) (v_sorts : Nat → Int32) (v_sums : Nat → Int64) (H : Heap) (locs : List Loc) (ls : Array Slot), lv_has ls 8 [(0, .ref (g.2.1 41)), (1, .int x1), (2, .int x2)] → GW g s (mkS σ [(2634, v_count)] [] [(44, v_firsts), (45, v_heads), (48, v_keys), (46, v_nexts), (49, v_otherKeys), (43, v_parted), (42, v_sorts)] [(47, v_sums)]) H locs → Pr_refine_n91 k15 x1 x2 v_count v_firsts v_heads v_keys v_nexts v_otherKeys v_parted v_sorts v_sums = some (w_count, w_firsts, w_heads, w_keys, w_nexts, w_otherKeys, w_parted, w_sorts, w_sums) → Wg p l e 4 99 s m args below meth c g none (mkS σ [(2634, w_count)] [] [(44, w_firsts), (45, w_heads), (48, w_keys), (46, w_nexts), (49, w_otherKeys), (43, w_parted), (42, w_sorts)] [(47, w_sums)]) H locs (F0 m 91 ls []) := by
    intro k15 hk15 x1 x2 v_count v_firsts v_heads v_keys v_nexts v_otherKeys v_parted v_sorts v_sums H locs ls hl hG h
    unfold Pr_refine_n91 at h
    refine lv_iinc (v := (x2 + (1 : Int32))) (lv' := [(2, .int (x2 + (1 : Int32))), (0, .ref (g.2.1 41)), (1, .int x1)]) hx hb dX3_refine_91 hl (k := 2) rfl (congrArg (fun z => x2 + z) (by decide)) (Nat.le_of_ble_eq_true rfl) rfl (fun ls hl => ?_)
    refine lv_goto (tgt := 15) hx hb dX3_refine_94 (by decide) ?_
    exact hk15 x1 (x2 + (1 : Int32)) v_count v_firsts v_heads v_keys v_nexts v_otherKeys v_parted v_sorts v_sums _ _ _ (lv_sub hl [1, 2, 0] rfl) hG h
  have n25 : ∀ (k15 : Int32 → Int32 → Int32 → (Nat → Int32) → (Nat → Int32) → (Nat → Int32) → (Nat → Int32) → (Nat → Int32) → (Nat → Int32) → (Nat → Int32) → (Nat → Int64) → Option (Int32 × (Nat → Int32) × (Nat → Int32) × (Nat → Int32) × (Nat → Int32) × (Nat → Int32) × (Nat → Int32) × (Nat → Int32) × (Nat → Int64))) (hk15 : ∀ (x1 : Int32) (x2 : Int32) (v_count : Int32) (v_firsts : Nat → Int32) (v_heads : Nat → Int32) (v_keys : Nat → Int32) (v_nexts : Nat → Int32) (v_otherKeys : Nat → Int32) (v_parted : Nat → Int32) (v_sorts : Nat → Int32) (v_sums : Nat → Int64) (H : Heap) (locs : List Loc) (ls : Array Slot), lv_has ls 8 [(0, .ref (g.2.1 41)), (1, .int x1), (2, .int x2)] → GW g s (mkS σ [(2634, v_count)] [] [(44, v_firsts), (45, v_heads), (48, v_keys), (46, v_nexts), (49, v_otherKeys), (43, v_parted), (42, v_sorts)] [(47, v_sums)]) H locs → k15 x1 x2 v_count v_firsts v_heads v_keys v_nexts v_otherKeys v_parted v_sorts v_sums = some (w_count, w_firsts, w_heads, w_keys, w_nexts, w_otherKeys, w_parted, w_sorts, w_sums) → Wg p l e 4 99 s m args below meth c g none (mkS σ [(2634, w_count)] [] [(44, w_firsts), (45, w_heads), (48, w_keys), (46, w_nexts), (49, w_otherKeys), (43, w_parted), (42, w_sorts)] [(47, w_sums)]) H locs (F0 m 15 ls [])) (k25 : Int32 → Int32 → Int32 → Int32 → (Nat → Int32) → (Nat → Int32) → (Nat → Int32) → (Nat → Int32) → (Nat → Int32) → (Nat → Int32) → (Nat → Int32) → (Nat → Int64) → Option (Int32 × (Nat → Int32) × (Nat → Int32) × (Nat → Int32) × (Nat → Int32) × (Nat → Int32) × (Nat → Int32) × (Nat → Int32) × (Nat → Int64))) (hk25 : ∀ (x1 : Int32) (x2 : Int32) (x3 : Int32) (v_count : Int32) (v_firsts : Nat → Int32) (v_heads : Nat → Int32) (v_keys : Nat → Int32) (v_nexts : Nat → Int32) (v_otherKeys : Nat → Int32) (v_parted : Nat → Int32) (v_sorts : Nat → Int32) (v_sums : Nat → Int64) (H : Heap) (locs : List Loc) (ls : Array Slot), lv_has ls 8 [(0, .ref (g.2.1 41)), (1, .int x1), (2, .int x2), (3, .int x3)] → GW g s (mkS σ [(2634, v_count)] [] [(44, v_firsts), (45, v_heads), (48, v_keys), (46, v_nexts), (49, v_otherKeys), (43, v_parted), (42, v_sorts)] [(47, v_sums)]) H locs → k25 x1 x2 x3 v_count v_firsts v_heads v_keys v_nexts v_otherKeys v_parted v_sorts v_sums = some (w_count, w_firsts, w_heads, w_keys, w_nexts, w_otherKeys, w_parted, w_sorts, w_sums) → Wg p l e 4 99 s m args below meth c g none (mkS σ [(2634, w_count)] [] [(44, w_firsts), (45, w_heads), (48, w_keys), (46, w_nexts), (49, w_otherKeys), (43, w_parted), (42, w_sorts)] [(47, w_sums)]) H locs (F0 m 25 ls [])) (x1 : Int32) (x2 : Int32) (x3 : Int32) (v_count : Int32) (v_firsts : Nat → Int32) (v_heads : Nat → Int32) (v_keys : Nat → Int32) (v_nexts : Nat → Int32) (v_otherKeys : Nat → Int32) (v_parted : Nat → Int32) (v_sorts : Nat → Int32) (v_sums : Nat → Int64) (H : Heap) (locs : List Loc) (ls : Array Slot), lv_has ls 8 [(0, .ref (g.2.1 41)), (1, .int x1), (2, .int x2), (3, .int x3)] → GW g s (mkS σ [(2634, v_count)] [] [(44, v_firsts), (45, v_heads), (48, v_keys), (46, v_nexts), (49, v_otherKeys), (43, v_parted), (42, v_sorts)] [(47, v_sums)]) H locs → Pr_refine_n25 k15 k25 (σ.1 2633) x1 x2 x3 v_count v_firsts v_heads v_keys v_nexts v_otherKeys v_parted v_sorts v_sums = some (w_count, w_firsts, w_heads, w_keys, w_nexts, w_otherKeys, w_parted, w_sorts, w_sums) → Wg p l e 4 99 s m args below meth c g none (mkS σ [(2634, w_count)] [] [(44, w_firsts), (45, w_heads), (48, w_keys), (46, w_nexts), (49, w_otherKeys), (43, w_parted), (42, w_sorts)] [(47, w_sums)]) H locs (F0 m 25 ls []) := by
    intro k15 hk15 k25 hk25 x1 x2 x3 v_count v_firsts v_heads v_keys v_nexts v_otherKeys v_parted v_sorts v_sums H locs ls hl hG h
    unfold Pr_refine_n25 at h
    refine lv_iload_n hx hb dX3_refine_25 rfl (lv_at hl 3 rfl) ?_
    refine lv_aload_n hx hb dX3_refine_26 rfl (lv_at hl 0 rfl) ?_
    refine gx_get (v := .int (σ.1 2633)) (C := RX3) (T := TX3) (N := 11) hx hb hts mc_X3 hown hK hG (ga_41 g _) rfl 9 (by decide) hw0 rfl rfl dX3_refine_27 ?_
    refine lv_icmp_ge (tgt := 91) hx hb dX3_refine_30 (by decide) (fun c2 => ?_) (fun c2 => ?_)
    · have h := ite_t c2 h
      exact n91 k15 hk15 x1 x2 v_count v_firsts v_heads v_keys v_nexts v_otherKeys v_parted v_sorts v_sums _ _ _ (lv_sub hl [0, 1, 2] rfl) hG h
    · have h := ite_f c2 h
      refine lv_iload_n hx hb dX3_refine_33 rfl (lv_at hl 2 rfl) ?_
      refine lv_bipush (v := (32 : Int32)) hx hb dX3_refine_34 (by decide) ?_
      refine lv_imul hx hb dX3_refine_36 ?_
      refine lv_iload_n hx hb dX3_refine_37 rfl (lv_at hl 3 rfl) ?_
      refine lv_iadd hx hb dX3_refine_38 ?_
      refine lv_istore (lv' := [(4, .int ((x2 * (32 : Int32)) + x3)), (0, .ref (g.2.1 41)), (1, .int x1), (2, .int x2), (3, .int x3)]) hx hb dX3_refine_39 hl (Nat.le_of_ble_eq_true rfl) rfl (fun ls hl => ?_)
      refine lv_aload_n hx hb dX3_refine_41 rfl (lv_at hl 1 rfl) ?_
      refine lv_iload_n hx hb dX3_refine_42 rfl (lv_at hl 3 rfl) ?_
      refine lv_iload_n hx hb dX3_refine_43 rfl (lv_at hl 4 rfl) ?_
      obtain ⟨z3, hc4, h⟩ := bnd_some h
      refine gx_cV (σ' := (mkS σ [(2634, v_count)] [] [(44, v_firsts), (45, v_heads), (48, v_keys), (46, v_nexts), (49, v_otherKeys), (43, v_parted), (42, v_sorts)] [(47, v_sums)])) (r := (some (.long z3))) (rest := []) (As := [.int x2, .int x3]) hS9 (c_Pr_sumOf l g (mkS σ [(2634, v_count)] [] [(44, v_firsts), (45, v_heads), (48, v_keys), (46, v_nexts), (49, v_otherKeys), (43, v_parted), (42, v_sorts)] [(47, v_sums)]) x2 x3 z3 hc4) rfl (cwV 2 hts (gz_V mw_4_95 mw_4_97 ms_2_14 mw_1_10 mw_4_98) rfl rfl rfl hdV_X3_sumOf ⟨Nat.le_of_ble_eq_true rfl, Nat.le_of_ble_eq_true rfl⟩) hK hG (ga_41 g _) rfl rfl rfl hl.1 rfl (Nat.le_of_ble_eq_true rfl) dX3_refine_44 (fun H locs hG => ?_)
      refine W.eq (g2 := F0 m 47 ls [.long z3]) rfl ?_
      refine lv_lstore (lv' := [(5, .long z3), (4, .int ((x2 * (32 : Int32)) + x3)), (0, .ref (g.2.1 41)), (1, .int x1), (2, .int x2), (3, .int x3)]) hx hb dX3_refine_47 hl (Nat.le_of_ble_eq_true rfl) rfl (fun ls hl => ?_)
      refine lv_aload_n hx hb dX3_refine_49 rfl (lv_at hl 2 rfl) ?_
      refine lv_iload hx hb dX3_refine_50 (lv_at hl 1 rfl) ?_
      refine lv_lload hx hb dX3_refine_52 (lv_at hl 0 rfl) ?_
      refine lv_iload_n hx hb dX3_refine_54 rfl (lv_at hl 3 rfl) ?_
      obtain ⟨z5, hc6, h⟩ := bnd_some h
      refine gx_cV (σ' := (mkS σ [(2634, v_count)] [] [(44, v_firsts), (45, v_heads), (48, z5.2.1), (46, v_nexts), (49, z5.2.2), (43, v_parted), (42, v_sorts)] [(47, v_sums)])) (r := (some (.int z5.1))) (rest := []) (As := [.int ((x2 * (32 : Int32)) + x3), .long z3, .int x1]) hS9 (c_Pr_match l g (mkS σ [(2634, v_count)] [] [(44, v_firsts), (45, v_heads), (48, v_keys), (46, v_nexts), (49, v_otherKeys), (43, v_parted), (42, v_sorts)] [(47, v_sums)]) ((x2 * (32 : Int32)) + x3) z3 x1 z5.1 z5.2.1 z5.2.2 hc6) (mk_mk rfl rfl rfl rfl) (cwV 3 hts (gz_V mw_4_107 mw_4_109 ms_3_0 mw_1_10 mw_4_110) rfl rfl rfl hdV_X3_match ⟨Nat.le_of_ble_eq_true rfl, Nat.le_of_ble_eq_true rfl⟩) hK hG (ga_41 g _) rfl rfl rfl hl.1 rfl (Nat.le_of_ble_eq_true rfl) dX3_refine_55 (fun H locs hG => ?_)
      refine W.eq (g2 := F0 m 58 ls [.int z5.1]) rfl ?_
      refine lv_istore (lv' := [(7, .int z5.1), (5, .long z3), (4, .int ((x2 * (32 : Int32)) + x3)), (0, .ref (g.2.1 41)), (1, .int x1), (2, .int x2), (3, .int x3)]) hx hb dX3_refine_58 hl (Nat.le_of_ble_eq_true rfl) rfl (fun ls hl => ?_)
      refine lv_aload_n hx hb dX3_refine_60 rfl (lv_at hl 3 rfl) ?_
      refine gx_get (v := .ref (g.2.1 43)) (C := RX3) (T := TX3) (N := 11) hx hb hts mc_X3 hown hK hG (ga_41 g _) rfl 1 (by decide) hw1 rfl rfl dX3_refine_61 ?_
      refine lv_iload hx hb dX3_refine_64 (lv_at hl 2 rfl) ?_
      refine lv_iload hx hb dX3_refine_66 (lv_at hl 0 rfl) ?_
      refine lv_if_ge (tgt := 82) hx hb dX3_refine_68 (by decide) (fun c7 => ?_) (fun c7 => ?_)
      · have h := ite_t c7 h
        refine lv_iload hx hb dX3_refine_82 (lv_at hl 0 rfl) ?_
        exact n84 k25 hk25 x1 x2 x3 ((x2 * (32 : Int32)) + x3) z5.1 v_count v_firsts v_heads z5.2.1 v_nexts z5.2.2 v_parted v_sorts v_sums _ _ _ (lv_sub hl [3, 4, 5, 6] rfl) hG h
      · have h := ite_f c7 h
        refine lv_aload_n hx hb dX3_refine_71 rfl (lv_at hl 3 rfl) ?_
        refine lv_iload hx hb dX3_refine_72 (lv_at hl 2 rfl) ?_
        refine lv_lload hx hb dX3_refine_74 (lv_at hl 1 rfl) ?_
        obtain ⟨z8, hc9, h⟩ := bnd_some h
        refine gx_cV (σ' := (mkS σ [(2634, z8.2.1)] [] [(44, z8.2.2.1), (45, z8.2.2.2.1), (48, z5.2.1), (46, z8.2.2.2.2.1), (49, z5.2.2), (43, v_parted), (42, v_sorts)] [(47, z8.2.2.2.2.2)])) (r := (some (.int z8.1))) (rest := [.int ((x2 * (32 : Int32)) + x3), .ref (g.2.1 43)]) (As := [.int ((x2 * (32 : Int32)) + x3), .long z3]) hS9 (c_Pr_open l g (mkS σ [(2634, v_count)] [] [(44, v_firsts), (45, v_heads), (48, z5.2.1), (46, v_nexts), (49, z5.2.2), (43, v_parted), (42, v_sorts)] [(47, v_sums)]) ((x2 * (32 : Int32)) + x3) z3 z8.1 z8.2.1 z8.2.2.1 z8.2.2.2.1 z8.2.2.2.2.1 z8.2.2.2.2.2 hc9) (mk_mk rfl rfl rfl rfl) (cwV 2 hts (gz_V mw_4_119 mw_4_121 ms_3_3 mw_1_10 mw_4_122) rfl rfl rfl hdV_X3_open ⟨Nat.le_of_ble_eq_true rfl, Nat.le_of_ble_eq_true rfl⟩) hK hG (ga_41 g _) rfl rfl rfl hl.1 rfl (Nat.le_of_ble_eq_true rfl) dX3_refine_76 (fun H locs hG => ?_)
        refine W.eq (g2 := F0 m 79 ls [.int z8.1, .int ((x2 * (32 : Int32)) + x3), .ref (g.2.1 43)]) rfl ?_
        refine lv_goto (tgt := 84) hx hb dX3_refine_79 (by decide) ?_
        exact n84 k25 hk25 x1 x2 x3 ((x2 * (32 : Int32)) + x3) z8.1 z8.2.1 z8.2.2.1 z8.2.2.2.1 z5.2.1 z8.2.2.2.2.1 z5.2.2 v_parted v_sorts z8.2.2.2.2.2 _ _ _ (lv_sub hl [3, 4, 5, 6] rfl) hG h
  have l25 : ∀ (k15 : Int32 → Int32 → Int32 → (Nat → Int32) → (Nat → Int32) → (Nat → Int32) → (Nat → Int32) → (Nat → Int32) → (Nat → Int32) → (Nat → Int32) → (Nat → Int64) → Option (Int32 × (Nat → Int32) × (Nat → Int32) × (Nat → Int32) × (Nat → Int32) × (Nat → Int32) × (Nat → Int32) × (Nat → Int32) × (Nat → Int64))) (hk15 : ∀ (x1 : Int32) (x2 : Int32) (v_count : Int32) (v_firsts : Nat → Int32) (v_heads : Nat → Int32) (v_keys : Nat → Int32) (v_nexts : Nat → Int32) (v_otherKeys : Nat → Int32) (v_parted : Nat → Int32) (v_sorts : Nat → Int32) (v_sums : Nat → Int64) (H : Heap) (locs : List Loc) (ls : Array Slot), lv_has ls 8 [(0, .ref (g.2.1 41)), (1, .int x1), (2, .int x2)] → GW g s (mkS σ [(2634, v_count)] [] [(44, v_firsts), (45, v_heads), (48, v_keys), (46, v_nexts), (49, v_otherKeys), (43, v_parted), (42, v_sorts)] [(47, v_sums)]) H locs → k15 x1 x2 v_count v_firsts v_heads v_keys v_nexts v_otherKeys v_parted v_sorts v_sums = some (w_count, w_firsts, w_heads, w_keys, w_nexts, w_otherKeys, w_parted, w_sorts, w_sums) → Wg p l e 4 99 s m args below meth c g none (mkS σ [(2634, w_count)] [] [(44, w_firsts), (45, w_heads), (48, w_keys), (46, w_nexts), (49, w_otherKeys), (43, w_parted), (42, w_sorts)] [(47, w_sums)]) H locs (F0 m 15 ls [])) (F : Nat) (x1 : Int32) (x2 : Int32) (x3 : Int32) (v_count : Int32) (v_firsts : Nat → Int32) (v_heads : Nat → Int32) (v_keys : Nat → Int32) (v_nexts : Nat → Int32) (v_otherKeys : Nat → Int32) (v_parted : Nat → Int32) (v_sorts : Nat → Int32) (v_sums : Nat → Int64) (H : Heap) (locs : List Loc) (ls : Array Slot), lv_has ls 8 [(0, .ref (g.2.1 41)), (1, .int x1), (2, .int x2), (3, .int x3)] → GW g s (mkS σ [(2634, v_count)] [] [(44, v_firsts), (45, v_heads), (48, v_keys), (46, v_nexts), (49, v_otherKeys), (43, v_parted), (42, v_sorts)] [(47, v_sums)]) H locs → Pr_refine_l25 k15 (σ.1 2633) F x1 x2 x3 v_count v_firsts v_heads v_keys v_nexts v_otherKeys v_parted v_sorts v_sums = some (w_count, w_firsts, w_heads, w_keys, w_nexts, w_otherKeys, w_parted, w_sorts, w_sums) → Wg p l e 4 99 s m args below meth c g none (mkS σ [(2634, w_count)] [] [(44, w_firsts), (45, w_heads), (48, w_keys), (46, w_nexts), (49, w_otherKeys), (43, w_parted), (42, w_sorts)] [(47, w_sums)]) H locs (F0 m 25 ls []) := by
    intro k15 hk15 F
    induction F with
    | zero => intro x1 x2 x3 v_count v_firsts v_heads v_keys v_nexts v_otherKeys v_parted v_sorts v_sums H locs ls hl hG h; exact no_some h
    | succ F ih => intro x1 x2 x3 v_count v_firsts v_heads v_keys v_nexts v_otherKeys v_parted v_sorts v_sums H locs ls hl hG h; exact n25 k15 hk15 (fun x1 x2 x3 v_count v_firsts v_heads v_keys v_nexts v_otherKeys v_parted v_sorts v_sums => Pr_refine_l25 k15 (σ.1 2633) F x1 x2 x3 v_count v_firsts v_heads v_keys v_nexts v_otherKeys v_parted v_sorts v_sums) ih x1 x2 x3 v_count v_firsts v_heads v_keys v_nexts v_otherKeys v_parted v_sorts v_sums H locs ls hl hG h
  have n97 : ∀ (v_count : Int32) (v_firsts : Nat → Int32) (v_heads : Nat → Int32) (v_keys : Nat → Int32) (v_nexts : Nat → Int32) (v_otherKeys : Nat → Int32) (v_parted : Nat → Int32) (v_sorts : Nat → Int32) (v_sums : Nat → Int64) (H : Heap) (locs : List Loc) (ls : Array Slot), lv_has ls 8 [(0, .ref (g.2.1 41))] → GW g s (mkS σ [(2634, v_count)] [] [(44, v_firsts), (45, v_heads), (48, v_keys), (46, v_nexts), (49, v_otherKeys), (43, v_parted), (42, v_sorts)] [(47, v_sums)]) H locs → Pr_refine_n97 v_count v_firsts v_heads v_keys v_nexts v_otherKeys v_parted v_sorts v_sums = some (w_count, w_firsts, w_heads, w_keys, w_nexts, w_otherKeys, w_parted, w_sorts, w_sums) → Wg p l e 4 99 s m args below meth c g none (mkS σ [(2634, w_count)] [] [(44, w_firsts), (45, w_heads), (48, w_keys), (46, w_nexts), (49, w_otherKeys), (43, w_parted), (42, w_sorts)] [(47, w_sums)]) H locs (F0 m 97 ls []) := by
    intro v_count v_firsts v_heads v_keys v_nexts v_otherKeys v_parted v_sorts v_sums H locs ls hl hG h
    unfold Pr_refine_n97 at h
    refine lv_aload_n hx hb dX3_refine_97 rfl (lv_at hl 0 rfl) ?_
    refine gx_get (v := .ref (g.2.1 43)) (C := RX3) (T := TX3) (N := 11) hx hb hts mc_X3 hown hK hG (ga_41 g _) rfl 1 (by decide) hw1 rfl rfl dX3_refine_98 ?_
    refine lv_iconst (v := (0 : Int32)) hx hb dX3_refine_101 (by decide) ?_
    refine lv_aload_n hx hb dX3_refine_102 rfl (lv_at hl 0 rfl) ?_
    refine gx_get (v := .ref (g.2.1 42)) (C := RX3) (T := TX3) (N := 11) hx hb hts mc_X3 hown hK hG (ga_41 g _) rfl 0 (by decide) hw2 rfl rfl dX3_refine_103 ?_
    refine lv_iconst (v := (0 : Int32)) hx hb dX3_refine_106 (by decide) ?_
    refine lv_sipush (v := (1024 : Int32)) hx hb dX3_refine_107 (by decide) ?_
    refine gx_copyi (σ' := (mkS σ [(2634, v_count)] [] [(44, v_firsts), (45, v_heads), (48, v_keys), (46, v_nexts), (49, v_otherKeys), (43, v_parted), (42, (va_cpy v_parted v_sorts ((0 : Int32).toNatClampNeg) ((0 : Int32).toNatClampNeg) ((1024 : Int32).toNatClampNeg)))] [(47, v_sums)])) (f := v_parted) (f1 := v_sorts) hx hb (by rw [hml]; exact hl.1.symm) hown hw3 hw4 hw5 hw6 hK hG (ga_43 g _) (ga_42 g _) (by decide) (by decide) (by decide) (by decide) (by decide) (Nat.le_of_ble_eq_true rfl) (Nat.le_of_ble_eq_true rfl) ((gs_42 g _ _).trans (congrArg (g_cells g) (mk_c 6 rfl rfl))) dX3_refine_110 (fun H locs hG => ?_)
    cases h
    exact gx_vret hx hb hr hlocks hG dX3_refine_113
  have n15 : ∀ (k15 : Int32 → Int32 → Int32 → (Nat → Int32) → (Nat → Int32) → (Nat → Int32) → (Nat → Int32) → (Nat → Int32) → (Nat → Int32) → (Nat → Int32) → (Nat → Int64) → Option (Int32 × (Nat → Int32) × (Nat → Int32) × (Nat → Int32) × (Nat → Int32) × (Nat → Int32) × (Nat → Int32) × (Nat → Int32) × (Nat → Int64))) (hk15 : ∀ (x1 : Int32) (x2 : Int32) (v_count : Int32) (v_firsts : Nat → Int32) (v_heads : Nat → Int32) (v_keys : Nat → Int32) (v_nexts : Nat → Int32) (v_otherKeys : Nat → Int32) (v_parted : Nat → Int32) (v_sorts : Nat → Int32) (v_sums : Nat → Int64) (H : Heap) (locs : List Loc) (ls : Array Slot), lv_has ls 8 [(0, .ref (g.2.1 41)), (1, .int x1), (2, .int x2)] → GW g s (mkS σ [(2634, v_count)] [] [(44, v_firsts), (45, v_heads), (48, v_keys), (46, v_nexts), (49, v_otherKeys), (43, v_parted), (42, v_sorts)] [(47, v_sums)]) H locs → k15 x1 x2 v_count v_firsts v_heads v_keys v_nexts v_otherKeys v_parted v_sorts v_sums = some (w_count, w_firsts, w_heads, w_keys, w_nexts, w_otherKeys, w_parted, w_sorts, w_sums) → Wg p l e 4 99 s m args below meth c g none (mkS σ [(2634, w_count)] [] [(44, w_firsts), (45, w_heads), (48, w_keys), (46, w_nexts), (49, w_otherKeys), (43, w_parted), (42, w_sorts)] [(47, w_sums)]) H locs (F0 m 15 ls [])) (x1 : Int32) (x2 : Int32) (v_count : Int32) (v_firsts : Nat → Int32) (v_heads : Nat → Int32) (v_keys : Nat → Int32) (v_nexts : Nat → Int32) (v_otherKeys : Nat → Int32) (v_parted : Nat → Int32) (v_sorts : Nat → Int32) (v_sums : Nat → Int64) (H : Heap) (locs : List Loc) (ls : Array Slot), lv_has ls 8 [(0, .ref (g.2.1 41)), (1, .int x1), (2, .int x2)] → GW g s (mkS σ [(2634, v_count)] [] [(44, v_firsts), (45, v_heads), (48, v_keys), (46, v_nexts), (49, v_otherKeys), (43, v_parted), (42, v_sorts)] [(47, v_sums)]) H locs → Pr_refine_n15 k15 (σ.1 2633) x1 x2 v_count v_firsts v_heads v_keys v_nexts v_otherKeys v_parted v_sorts v_sums = some (w_count, w_firsts, w_heads, w_keys, w_nexts, w_otherKeys, w_parted, w_sorts, w_sums) → Wg p l e 4 99 s m args below meth c g none (mkS σ [(2634, w_count)] [] [(44, w_firsts), (45, w_heads), (48, w_keys), (46, w_nexts), (49, w_otherKeys), (43, w_parted), (42, w_sorts)] [(47, w_sums)]) H locs (F0 m 15 ls []) := by
    intro k15 hk15 x1 x2 v_count v_firsts v_heads v_keys v_nexts v_otherKeys v_parted v_sorts v_sums H locs ls hl hG h
    unfold Pr_refine_n15 at h
    refine lv_iload_n hx hb dX3_refine_15 rfl (lv_at hl 2 rfl) ?_
    refine lv_aload_n hx hb dX3_refine_16 rfl (lv_at hl 0 rfl) ?_
    refine gx_get (v := .int (σ.1 2633)) (C := RX3) (T := TX3) (N := 11) hx hb hts mc_X3 hown hK hG (ga_41 g _) rfl 9 (by decide) hw0 rfl rfl dX3_refine_17 ?_
    refine lv_icmp_ge (tgt := 97) hx hb dX3_refine_20 (by decide) (fun c10 => ?_) (fun c10 => ?_)
    · have h := ite_t c10 h
      exact n97 v_count v_firsts v_heads v_keys v_nexts v_otherKeys v_parted v_sorts v_sums _ _ _ (lv_sub hl [0] rfl) hG h
    · have h := ite_f c10 h
      refine lv_iconst (v := (0 : Int32)) hx hb dX3_refine_23 (by decide) ?_
      refine lv_istore_n (lv' := [(3, .int (0 : Int32)), (0, .ref (g.2.1 41)), (1, .int x1), (2, .int x2)]) hx hb dX3_refine_24 rfl hl (Nat.le_of_ble_eq_true rfl) rfl (fun ls hl => ?_)
      exact l25 k15 hk15 FUEL x1 x2 (0 : Int32) v_count v_firsts v_heads v_keys v_nexts v_otherKeys v_parted v_sorts v_sums _ _ _ (lv_sub hl [1, 2, 3, 0] rfl) hG h
  have l15 : ∀  (F : Nat) (x1 : Int32) (x2 : Int32) (v_count : Int32) (v_firsts : Nat → Int32) (v_heads : Nat → Int32) (v_keys : Nat → Int32) (v_nexts : Nat → Int32) (v_otherKeys : Nat → Int32) (v_parted : Nat → Int32) (v_sorts : Nat → Int32) (v_sums : Nat → Int64) (H : Heap) (locs : List Loc) (ls : Array Slot), lv_has ls 8 [(0, .ref (g.2.1 41)), (1, .int x1), (2, .int x2)] → GW g s (mkS σ [(2634, v_count)] [] [(44, v_firsts), (45, v_heads), (48, v_keys), (46, v_nexts), (49, v_otherKeys), (43, v_parted), (42, v_sorts)] [(47, v_sums)]) H locs → Pr_refine_l15 (σ.1 2633) F x1 x2 v_count v_firsts v_heads v_keys v_nexts v_otherKeys v_parted v_sorts v_sums = some (w_count, w_firsts, w_heads, w_keys, w_nexts, w_otherKeys, w_parted, w_sorts, w_sums) → Wg p l e 4 99 s m args below meth c g none (mkS σ [(2634, w_count)] [] [(44, w_firsts), (45, w_heads), (48, w_keys), (46, w_nexts), (49, w_otherKeys), (43, w_parted), (42, w_sorts)] [(47, w_sums)]) H locs (F0 m 15 ls []) := by
    intro F
    induction F with
    | zero => intro x1 x2 v_count v_firsts v_heads v_keys v_nexts v_otherKeys v_parted v_sorts v_sums H locs ls hl hG h; exact no_some h
    | succ F ih => intro x1 x2 v_count v_firsts v_heads v_keys v_nexts v_otherKeys v_parted v_sorts v_sums H locs ls hl hG h; exact n15 (fun x1 x2 v_count v_firsts v_heads v_keys v_nexts v_otherKeys v_parted v_sorts v_sums => Pr_refine_l15 (σ.1 2633) F x1 x2 v_count v_firsts v_heads v_keys v_nexts v_otherKeys v_parted v_sorts v_sums) ih x1 x2 v_count v_firsts v_heads v_keys v_nexts v_otherKeys v_parted v_sorts v_sums H locs ls hl hG h
  refine lv_aload_n hx hb dX3_refine_0 rfl (lv_at hl 0 rfl) ?_
  refine gx_get (v := .ref (g.2.1 45)) (C := RX3) (T := TX3) (N := 11) hx hb hts mc_X3 hown hK hG (ga_41 g _) rfl 3 (by decide) hw7 rfl rfl dX3_refine_1 ?_
  refine lv_iconst (v := (-1 : Int32)) hx hb dX3_refine_4 (by decide) ?_
  obtain ⟨z11, hc12, h⟩ := bnd_some h
  refine gx_cS (σ' := (mkS σ [(2634, (σ.1 2634))] [] [(44, (σ.2.2.1 44)), (45, z11), (48, (σ.2.2.1 48)), (46, (σ.2.2.1 46)), (49, (σ.2.2.1 49)), (43, (σ.2.2.1 43)), (42, (σ.2.2.1 42))] [(47, (σ.2.2.2 47))])) (r := none) (rest := []) (As := [.ref (g.2.1 45), .int (-1 : Int32)]) hS9 (c_JA_fillI_45 l g (mkS σ [(2634, (σ.1 2634))] [] [(44, (σ.2.2.1 44)), (45, (σ.2.2.1 45)), (48, (σ.2.2.1 48)), (46, (σ.2.2.1 46)), (49, (σ.2.2.1 49)), (43, (σ.2.2.1 43)), (42, (σ.2.2.1 42))] [(47, (σ.2.2.2 47))]) (-1 : Int32) z11 hc12) (mk_mk rfl rfl rfl rfl) (va_cwS 2 hts (gz_S mw_4_94 mw_1_155 mw_1_8 mw_1_156) rfl rfl rfl hdS_J7_fill_53178 ⟨Nat.le_of_ble_eq_true rfl, Nat.le_of_ble_eq_true rfl⟩) hK hG rfl hl.1 rfl (Nat.le_of_ble_eq_true rfl) dX3_refine_5 (fun H locs hG => ?_)
  refine W.eq (g2 := F0 m 8 ls []) rfl ?_
  refine lv_aload_n hx hb dX3_refine_8 rfl (lv_at hl 0 rfl) ?_
  refine lv_iconst (v := (0 : Int32)) hx hb dX3_refine_9 (by decide) ?_
  refine gx_put (σ' := (mkS σ [(2634, (0 : Int32))] [] [(44, (σ.2.2.1 44)), (45, z11), (48, (σ.2.2.1 48)), (46, (σ.2.2.1 46)), (49, (σ.2.2.1 49)), (43, (σ.2.2.1 43)), (42, (σ.2.2.1 42))] [(47, (σ.2.2.2 47))])) (C := RX3) (T := TX3) (N := 11) hx hb hts mc_X3 tyX3 tyX3_ok nmX3 hown hK hG (ga_41 g _) rfl 10 (by decide) hw8 rfl rfl rfl rfl (Nat.le_of_ble_eq_true rfl) ((gf_2634 g _ _).trans (congrArg (g_cells g) (mk_a 0 rfl rfl))) dX3_refine_10 (fun H locs hG => ?_)
  refine lv_iconst (v := (0 : Int32)) hx hb dX3_refine_13 (by decide) ?_
  refine lv_istore_n (lv' := [(2, .int (0 : Int32)), (0, .ref (g.2.1 41)), (1, .int x1)]) hx hb dX3_refine_14 rfl hl (Nat.le_of_ble_eq_true rfl) rfl (fun ls hl => ?_)
  exact l15 FUEL x1 (0 : Int32) (0 : Int32) (σ.2.2.1 44) z11 (σ.2.2.1 48) (σ.2.2.1 46) (σ.2.2.1 49) (σ.2.2.1 43) (σ.2.2.1 42) (σ.2.2.2 47) _ _ _ (lv_sub hl [1, 2, 0] rfl) hG h

