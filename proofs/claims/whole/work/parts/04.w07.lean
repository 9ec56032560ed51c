set_option maxHeartbeats 4000000 in
set_option maxRecDepth 100000 in
theorem c_M_thirdAt (l : Launch) (g : GC) (σ : St) (x1 : Int32) (x2 : Int32) (x3 : Int32) (r : Int64) (h : M_thirdAt x1 x2 x3 (σ.1 3208) (σ.2.2.2 66) = some r) : Cn l g yX9_thirdAt (Cond.code yX9_thirdAt cX9_thirdAt 4 (some .long) :: wG) 0 0 [.ref (g.2.1 50), .int x1, .int x2, .int x3] σ (some (.long r)) σ := by
  unfold Cn
  refine Met.ofW (cc := cX9_thirdAt) (maxL := 4) (ret := (some .long)) (by decide) rfl ?_
  intro p e s m args below meth c s₁ B hml hv
  obtain ⟨hargs, hP0, hK⟩ := hv
  have hx := B.exec
  have hb := B.bytes
  have hr := B.returns
  have hts : ∀ w ∈ wG, w.before args s = true := fun w h => atoms_spec (ws := (Cond.code yX9_thirdAt cX9_thirdAt 4 (some .long) :: wG)) B.pre w (List.mem_cons_of_mem _ h)
  have hown : s.vm.findClass RX9 = some m.cls := findClass_of_methodNamed B.named
  have hlocks := B.notSynchronized
  have hw0 := hts _ mw_4_147
  have hw1 := hts _ mw_4_164
  have hf9 : entryFrame m args 4 = _ := (congrArg (fun a => entryFrame m a 4) hargs).trans (lg_entry_eq m [.ref (g.2.1 50), .int x1, .int x2, .int x3] 4)
  show Wg p l e 0 0 s m args below meth c g (some (.long r)) σ s.heap [] (entryFrame m args 4)
  rw [hf9]
  have hl := lv_entry ([.ref (g.2.1 50), .int x1, .int x2, .int x3]) (n := 4) (Nat.le_of_ble_eq_true rfl)
  generalize (lg_sl ([.ref (g.2.1 50), .int x1, .int x2, .int x3]) ++ List.replicate (4 - (lg_sl ([.ref (g.2.1 50), .int x1, .int x2, .int x3])).length) Slot.unset).toArray = ls at hl ⊢
  have hl : lv_has ls 4 [(0, .ref (g.2.1 50)), (1, .int x1), (2, .int x2), (3, .int x3)] := hl
  have hG : GW g s σ s.heap [] := ⟨hP0, va_S.rf⟩
  unfold M_thirdAt at h
  have n32 : ∀ (t0 : Int64) (H : Heap) (locs : List Loc) (ls : Array Slot), lv_has ls 4 [] → GW g s σ H locs → M_thirdAt_n32 t0 = some r → Wg p l e 0 0 s m args below meth c g (some (.long r)) σ H locs (F0 m 32 ls [.long t0]) := by
    intro t0 H locs ls hl hG h
    unfold M_thirdAt_n32 at h
    cases h
    exact gx_lret hx hb hr hlocks hG dX9_thirdAt_32
  have n12 : ∀  (H : Heap) (locs : List Loc) (ls : Array Slot), lv_has ls 4 [] → GW g s σ H locs → M_thirdAt_n12 = some r → Wg p l e 0 0 s m args below meth c g (some (.long r)) σ H locs (F0 m 12 ls []) := by
    intro H locs ls hl hG h
    unfold M_thirdAt_n12 at h
    refine lv_lconst (v := (0 : Int64)) hx hb dX9_thirdAt_12 (by decide) ?_
    refine lv_goto (tgt := 32) hx hb dX9_thirdAt_13 (by decide) ?_
    exact n32 (0 : Int64) _ _ _ (lv_sub hl [] rfl) hG h
  refine lv_iload_n hx hb dX9_thirdAt_0 rfl (lv_at hl 3 rfl) ?_
  refine lv_if_lt (tgt := 12) hx hb dX9_thirdAt_1 (by decide) (fun c1 => ?_) (fun c1 => ?_)
  · have h := ite_t c1 h
    exact n12 _ _ _ (lv_sub hl [] rfl) hG h
  · have h := ite_f c1 h
    refine lv_iload_n hx hb dX9_thirdAt_4 rfl (lv_at hl 3 rfl) ?_
    refine lv_aload_n hx hb dX9_thirdAt_5 rfl (lv_at hl 0 rfl) ?_
    refine gx_get (v := .int (σ.1 3208)) (C := RX9) (T := TX9) (N := 44) hx hb hts mc_X9 hown hK hG (ga_50 g _) rfl 8 (by decide) hw0 rfl rfl dX9_thirdAt_6 ?_
    refine lv_icmp_le (tgt := 16) hx hb dX9_thirdAt_9 (by decide) (fun c2 => ?_) (fun c2 => ?_)
    · have h := ite_t c2 h
      refine lv_aload_n hx hb dX9_thirdAt_16 rfl (lv_at hl 0 rfl) ?_
      refine gx_get (v := .ref (g.2.1 66)) (C := RX9) (T := TX9) (N := 44) hx hb hts mc_X9 hown hK hG (ga_50 g _) rfl 25 (by decide) hw1 rfl rfl dX9_thirdAt_17 ?_
      refine lv_bipush (v := (36 : Int32)) hx hb dX9_thirdAt_20 (by decide) ?_
      refine lv_iload_n hx hb dX9_thirdAt_22 rfl (lv_at hl 1 rfl) ?_
      refine lv_imul hx hb dX9_thirdAt_23 ?_
      refine lv_bipush (v := (6 : Int32)) hx hb dX9_thirdAt_24 (by decide) ?_
      refine lv_iload_n hx hb dX9_thirdAt_26 rfl (lv_at hl 2 rfl) ?_
      refine lv_imul hx hb dX9_thirdAt_27 ?_
      refine lv_iadd hx hb dX9_thirdAt_28 ?_
      refine lv_iload_n hx hb dX9_thirdAt_29 rfl (lv_at hl 3 rfl) ?_
      refine lv_iadd hx hb dX9_thirdAt_30 ?_
      obtain ⟨hg3, h⟩ := gd_some h
      refine gx_lald (f := (σ.2.2.2 66)) hx hb hK hG (ga_66 g _) hg3 dX9_thirdAt_31 ?_
      exact n32 ((σ.2.2.2 66) (((((36 : Int32) * x1) + ((6 : Int32) * x2)) + x3).toNatClampNeg)) _ _ _ (lv_sub hl [] rfl) hG h
    · have h := ite_f c2 h
      exact n12 _ _ _ (lv_sub hl [] rfl) hG h

set_option maxHeartbeats 4000000 in
set_option maxRecDepth 100000 in
theorem c_M_findThirds (l : Launch) (g : GC) (σ : St) (r : Int32) (w_third : Nat → Int64) (h : M_findThirds (σ.1 3208) (σ.2.2.1 56) (σ.2.2.1 57) (σ.2.2.2 66) = some (r, w_third)) : Cn l g yX9_findThirds (Cond.code yX9_findThirds cX9_findThirds 6 (some .boolean) :: wG) 1 23 [.ref (g.2.1 50)] σ (some (.int r)) (mkS σ [] [] [] [(66, w_third)]) := by
  unfold Cn
  refine Met.ofW (cc := cX9_findThirds) (maxL := 6) (ret := (some .boolean)) (by decide) rfl ?_
  intro p e s m args below meth c s₁ B hml hv
  obtain ⟨hargs, hP0, hK⟩ := hv
  have hx := B.exec
  have hb := B.bytes
  have hr := B.returns
  have hts : ∀ w ∈ wG, w.before args s = true := fun w h => atoms_spec (ws := (Cond.code yX9_findThirds cX9_findThirds 6 (some .boolean) :: wG)) B.pre w (List.mem_cons_of_mem _ h)
  have hown : s.vm.findClass RX9 = some m.cls := findClass_of_methodNamed B.named
  have hlocks := B.notSynchronized
  have hS9 : CallFix p m c cX9_findThirds 6 s args wG RX9 := ⟨hx, hb, hml, hown, hts⟩
  have hw0 := hts _ mw_4_164
  have hw1 := hts _ mw_4_148
  have hw2 := hts _ mw_4_149
  have hw3 := hts _ mw_4_147
  have hf9 : entryFrame m args 6 = _ := (congrArg (fun a => entryFrame m a 6) hargs).trans (lg_entry_eq m [.ref (g.2.1 50)] 6)
  show Wg p l e 1 23 s m args below meth c g (some (.int r)) (mkS σ [] [] [] [(66, w_third)]) s.heap [] (entryFrame m args 6)
  rw [hf9]
  have hl := lv_entry ([.ref (g.2.1 50)]) (n := 6) (Nat.le_of_ble_eq_true rfl)
  generalize (lg_sl ([.ref (g.2.1 50)]) ++ List.replicate (6 - (lg_sl ([.ref (g.2.1 50)])).length) Slot.unset).toArray = ls at hl ⊢
  have hl : lv_has ls 6 [(0, .ref (g.2.1 50))] := hl
  have hG : GW g s σ s.heap [] := ⟨hP0, va_S.rf⟩
  have hG : GW g s (mkS σ [] [] [] [(66, (σ.2.2.2 66))]) s.heap [] := GW_self [] [] [] [66] hG
  unfold M_findThirds at h
  have n103 : ∀ (k12 : Int32 → Int32 → (Nat → Int64) → Option (Int32 × (Nat → Int64))) (hk12 : ∀ (x1 : Int32) (x2 : Int32) (v_third : Nat → Int64) (H : Heap) (locs : List Loc) (ls : Array Slot), lv_has ls 6 [(0, .ref (g.2.1 50)), (1, .int x1), (2, .int x2)] → GW g s (mkS σ [] [] [] [(66, v_third)]) H locs → k12 x1 x2 v_third = some (r, w_third) → Wg p l e 1 23 s m args below meth c g (some (.int r)) (mkS σ [] [] [] [(66, w_third)]) H locs (F0 m 12 ls [])) (x1 : Int32) (x2 : Int32) (t1 : Int32) (t2 : Int64) (v_third : Nat → Int64) (H : Heap) (locs : List Loc) (ls : Array Slot), lv_has ls 6 [(0, .ref (g.2.1 50)), (1, .int x1), (2, .int x2)] → GW g s (mkS σ [] [] [] [(66, v_third)]) H locs → M_findThirds_n103 k12 x1 x2 t1 t2 v_third = some (r, w_third) → Wg p l e 1 23 s m args below meth c g (some (.int r)) (mkS σ [] [] [] [(66, w_third)]) H locs (F0 m 103 ls [.long t2, .int t1, .ref (g.2.1 66)]) := by
    intro k12 hk12 x1 x2 t1 t2 v_third H locs ls hl hG h
    unfold M_findThirds_n103 at h
    obtain ⟨hg1, h⟩ := gd_some h
    refine gx_last (σ' := (mkS σ [] [] [] [(66, (vp_updL v_third (t1.toNatClampNeg) t2))])) (f := v_third) hx hb hK hG (ga_66 g _) hg1 ((gs_66 g _ _).trans (congrArg (g_cells g) (mk_d 0 rfl rfl))) dX9_findThirds_103 (fun H locs hG => ?_)
    refine lv_iinc (v := (x2 + (1 : Int32))) (lv' := [(2, .int (x2 + (1 : Int32))), (0, .ref (g.2.1 50)), (1, .int x1)]) hx hb dX9_findThirds_104 hl (k := 2) rfl (congrArg (fun z => x2 + z) (by decide)) (Nat.le_of_ble_eq_true rfl) rfl (fun ls hl => ?_)
    refine lv_goto (tgt := 12) hx hb dX9_findThirds_107 (by decide) ?_
    exact hk12 x1 (x2 + (1 : Int32)) (vp_updL v_third (t1.toNatClampNeg) t2) _ _ _ (lv_sub hl [1, 2, 0] rfl) hG h
  have n40 : ∀ (k12 : Int32 → Int32 → (Nat → Int64) → Option (Int32 × (Nat → Int64))) (hk12 : ∀ (x1 : Int32) (x2 : Int32) (v_third : Nat → Int64) (H : Heap) (locs : List Loc) (ls : Array Slot), lv_has ls 6 [(0, .ref (g.2.1 50)), (1, .int x1), (2, .int x2)] → GW g s (mkS σ [] [] [] [(66, v_third)]) H locs → k12 x1 x2 v_third = some (r, w_third) → Wg p l e 1 23 s m args below meth c g (some (.int r)) (mkS σ [] [] [] [(66, w_third)]) H locs (F0 m 12 ls [])) (x1 : Int32) (x2 : Int32) (t1 : Int32) (t2 : Int64) (v_third : Nat → Int64) (H : Heap) (locs : List Loc) (ls : Array Slot), lv_has ls 6 [(0, .ref (g.2.1 50)), (1, .int x1), (2, .int x2)] → GW g s (mkS σ [] [] [] [(66, v_third)]) H locs → M_findThirds_n40 k12 (σ.2.2.1 56) (σ.2.2.1 57) x1 x2 t1 t2 v_third = some (r, w_third) → Wg p l e 1 23 s m args below meth c g (some (.int r)) (mkS σ [] [] [] [(66, w_third)]) H locs (F0 m 40 ls [.long t2, .int t1, .ref (g.2.1 66)]) := by
    intro k12 hk12 x1 x2 t1 t2 v_third H locs ls hl hG h
    unfold M_findThirds_n40 at h
    obtain ⟨hg2, h⟩ := gd_some h
    refine gx_last (σ' := (mkS σ [] [] [] [(66, (vp_updL v_third (t1.toNatClampNeg) t2))])) (f := v_third) hx hb hK hG (ga_66 g _) hg2 ((gs_66 g _ _).trans (congrArg (g_cells g) (mk_d 0 rfl rfl))) dX9_findThirds_40 (fun H locs hG => ?_)
    refine lv_aload_n hx hb dX9_findThirds_41 rfl (lv_at hl 0 rfl) ?_
    refine gx_get (v := .ref (g.2.1 66)) (C := RX9) (T := TX9) (N := 44) hx hb hts mc_X9 hown hK hG (ga_50 g _) rfl 25 (by decide) hw0 rfl rfl dX9_findThirds_42 ?_
    refine lv_bipush (v := (36 : Int32)) hx hb dX9_findThirds_45 (by decide) ?_
    refine lv_iload_n hx hb dX9_findThirds_47 rfl (lv_at hl 1 rfl) ?_
    refine lv_imul hx hb dX9_findThirds_48 ?_
    refine lv_bipush (v := (6 : Int32)) hx hb dX9_findThirds_49 (by decide) ?_
    refine lv_iadd hx hb dX9_findThirds_51 ?_
    refine lv_iload_n hx hb dX9_findThirds_52 rfl (lv_at hl 2 rfl) ?_
    refine lv_iadd hx hb dX9_findThirds_53 ?_
    refine lv_iload_n hx hb dX9_findThirds_54 rfl (lv_at hl 2 rfl) ?_
    refine lv_iload_n hx hb dX9_findThirds_55 rfl (lv_at hl 1 rfl) ?_
    refine lv_iconst (v := (1 : Int32)) hx hb dX9_findThirds_56 (by decide) ?_
    refine lv_isub hx hb dX9_findThirds_57 ?_
    refine lv_icmp_ne (tgt := 71) hx hb dX9_findThirds_58 (by decide) (fun c3 => ?_) (fun c3 => ?_)
    · have h := ite_f c3 h
      refine lv_iload_n hx hb dX9_findThirds_71 rfl (lv_at hl 2 rfl) ?_
      refine lv_iload_n hx hb dX9_findThirds_72 rfl (lv_at hl 1 rfl) ?_
      refine lv_icmp_ne (tgt := 85) hx hb dX9_findThirds_73 (by decide) (fun c4 => ?_) (fun c4 => ?_)
      · have h := ite_f c4 h
        refine lv_iload_n hx hb dX9_findThirds_85 rfl (lv_at hl 2 rfl) ?_
        refine lv_iload_n hx hb dX9_findThirds_86 rfl (lv_at hl 1 rfl) ?_
        refine lv_iconst (v := (1 : Int32)) hx hb dX9_findThirds_87 (by decide) ?_
        refine lv_iadd hx hb dX9_findThirds_88 ?_
        refine lv_icmp_ne (tgt := 102) hx hb dX9_findThirds_89 (by decide) (fun c5 => ?_) (fun c5 => ?_)
        · have h := ite_f c5 h
          refine lv_lconst (v := (0 : Int64)) hx hb dX9_findThirds_102 (by decide) ?_
          exact n103 k12 hk12 x1 x2 ((((36 : Int32) * x1) + (6 : Int32)) + x2) (0 : Int64) (vp_updL v_third (t1.toNatClampNeg) t2) _ _ _ (lv_sub hl [0, 1, 2] rfl) hG h
        · have h := ite_t c5 h
          refine lv_aload_n hx hb dX9_findThirds_92 rfl (lv_at hl 0 rfl) ?_
          refine gx_get (v := .ref (g.2.1 56)) (C := RX9) (T := TX9) (N := 44) hx hb hts mc_X9 hown hK hG (ga_50 g _) rfl 9 (by decide) hw1 rfl rfl dX9_findThirds_93 ?_
          refine lv_iload_n hx hb dX9_findThirds_96 rfl (lv_at hl 1 rfl) ?_
          obtain ⟨hg6, h⟩ := gd_some h
          refine gx_iald (f := (σ.2.2.1 56)) hx hb hK hG (ga_56 g _) hg6 dX9_findThirds_97 ?_
          refine lv_i2l hx hb dX9_findThirds_98 rfl ?_
          refine lv_goto (tgt := 103) hx hb dX9_findThirds_99 (by decide) ?_
          exact n103 k12 hk12 x1 x2 ((((36 : Int32) * x1) + (6 : Int32)) + x2) (((σ.2.2.1 56) (x1.toNatClampNeg)).toInt64) (vp_updL v_third (t1.toNatClampNeg) t2) _ _ _ (lv_sub hl [0, 1, 2] rfl) hG h
      · have h := ite_t c4 h
        refine lv_aload_n hx hb dX9_findThirds_76 rfl (lv_at hl 0 rfl) ?_
        refine lv_iload_n hx hb dX9_findThirds_77 rfl (lv_at hl 1 rfl) ?_
        obtain ⟨z7, hc8, h⟩ := bnd_some h
        refine gx_cV (σ' := (mkS σ [] [] [] [(66, (vp_updL v_third (t1.toNatClampNeg) t2))])) (r := (some (.int z7))) (rest := [.int ((((36 : Int32) * x1) + (6 : Int32)) + x2), .ref (g.2.1 66)]) (As := [.int x1]) hS9 (c_M_a l g (mkS σ [] [] [] [(66, (vp_updL v_third (t1.toNatClampNeg) t2))]) x1 z7 hc8) rfl (cwV 1 hts (gz_V mw_5_216 mw_5_218 ms_4_9 mw_1_11 mw_5_219) rfl rfl rfl hdV_X9_a ⟨Nat.le_of_ble_eq_true rfl, Nat.le_of_ble_eq_true rfl⟩) hK hG (ga_50 g _) rfl rfl rfl hl.1 rfl (Nat.le_of_ble_eq_true rfl) dX9_findThirds_78 (fun H locs hG => ?_)
        refine W.eq (g2 := F0 m 81 ls [.int z7, .int ((((36 : Int32) * x1) + (6 : Int32)) + x2), .ref (g.2.1 66)]) rfl ?_
        refine lv_i2l hx hb dX9_findThirds_81 rfl ?_
        refine lv_goto (tgt := 103) hx hb dX9_findThirds_82 (by decide) ?_
        exact n103 k12 hk12 x1 x2 ((((36 : Int32) * x1) + (6 : Int32)) + x2) (z7.toInt64) (vp_updL v_third (t1.toNatClampNeg) t2) _ _ _ (lv_sub hl [0, 1, 2] rfl) hG h
    · have h := ite_t c3 h
      refine lv_aload_n hx hb dX9_findThirds_61 rfl (lv_at hl 0 rfl) ?_
      refine gx_get (v := .ref (g.2.1 57)) (C := RX9) (T := TX9) (N := 44) hx hb hts mc_X9 hown hK hG (ga_50 g _) rfl 10 (by decide) hw2 rfl rfl dX9_findThirds_62 ?_
      refine lv_iload_n hx hb dX9_findThirds_65 rfl (lv_at hl 1 rfl) ?_
      obtain ⟨hg9, h⟩ := gd_some h
      refine gx_iald (f := (σ.2.2.1 57)) hx hb hK hG (ga_57 g _) hg9 dX9_findThirds_66 ?_
      refine lv_i2l hx hb dX9_findThirds_67 rfl ?_
      refine lv_goto (tgt := 103) hx hb dX9_findThirds_68 (by decide) ?_
      exact n103 k12 hk12 x1 x2 ((((36 : Int32) * x1) + (6 : Int32)) + x2) (((σ.2.2.1 57) (x1.toNatClampNeg)).toInt64) (vp_updL v_third (t1.toNatClampNeg) t2) _ _ _ (lv_sub hl [0, 1, 2] rfl) hG h
  have n110 : ∀ (k2 : Int32 → (Nat → Int64) → Option (Int32 × (Nat → Int64))) (hk2 : ∀ (x1 : Int32) (v_third : Nat → Int64) (H : Heap) (locs : List Loc) (ls : Array Slot), lv_has ls 6 [(0, .ref (g.2.1 50)), (1, .int x1)] → GW g s (mkS σ [] [] [] [(66, v_third)]) H locs → k2 x1 v_third = some (r, w_third) → Wg p l e 1 23 s m args below meth c g (some (.int r)) (mkS σ [] [] [] [(66, w_third)]) H locs (F0 m 2 ls [])) (x1 : Int32) (v_third : Nat → Int64) (H : Heap) (locs : List Loc) (ls : Array Slot), lv_has ls 6 [(0, .ref (g.2.1 50)), (1, .int x1)] → GW g s (mkS σ [] [] [] [(66, v_third)]) H locs → M_findThirds_n110 k2 x1 v_third = some (r, w_third) → Wg p l e 1 23 s m args below meth c g (some (.int r)) (mkS σ [] [] [] [(66, w_third)]) H locs (F0 m 110 ls []) := by
    intro k2 hk2 x1 v_third H locs ls hl hG h
    unfold M_findThirds_n110 at h
    refine lv_iinc (v := (x1 + (1 : Int32))) (lv' := [(1, .int (x1 + (1 : Int32))), (0, .ref (g.2.1 50))]) hx hb dX9_findThirds_110 hl (k := 1) rfl (congrArg (fun z => x1 + z) (by decide)) (Nat.le_of_ble_eq_true rfl) rfl (fun ls hl => ?_)
    refine lv_goto (tgt := 2) hx hb dX9_findThirds_113 (by decide) ?_
    exact hk2 (x1 + (1 : Int32)) v_third _ _ _ (lv_sub hl [1, 0] rfl) hG h
  have n12 : ∀ (k2 : Int32 → (Nat → Int64) → Option (Int32 × (Nat → Int64))) (hk2 : ∀ (x1 : Int32) (v_third : Nat → Int64) (H : Heap) (locs : List Loc) (ls : Array Slot), lv_has ls 6 [(0, .ref (g.2.1 50)), (1, .int x1)] → GW g s (mkS σ [] [] [] [(66, v_third)]) H locs → k2 x1 v_third = some (r, w_third) → Wg p l e 1 23 s m args below meth c g (some (.int r)) (mkS σ [] [] [] [(66, w_third)]) H locs (F0 m 2 ls [])) (k12 : Int32 → Int32 → (Nat → Int64) → Option (Int32 × (Nat → Int64))) (hk12 : ∀ (x1 : Int32) (x2 : Int32) (v_third : Nat → Int64) (H : Heap) (locs : List Loc) (ls : Array Slot), lv_has ls 6 [(0, .ref (g.2.1 50)), (1, .int x1), (2, .int x2)] → GW g s (mkS σ [] [] [] [(66, v_third)]) H locs → k12 x1 x2 v_third = some (r, w_third) → Wg p l e 1 23 s m args below meth c g (some (.int r)) (mkS σ [] [] [] [(66, w_third)]) H locs (F0 m 12 ls [])) (x1 : Int32) (x2 : Int32) (v_third : Nat → Int64) (H : Heap) (locs : List Loc) (ls : Array Slot), lv_has ls 6 [(0, .ref (g.2.1 50)), (1, .int x1), (2, .int x2)] → GW g s (mkS σ [] [] [] [(66, v_third)]) H locs → M_findThirds_n12 k2 k12 (σ.1 3208) (σ.2.2.1 56) (σ.2.2.1 57) x1 x2 v_third = some (r, w_third) → Wg p l e 1 23 s m args below meth c g (some (.int r)) (mkS σ [] [] [] [(66, w_third)]) H locs (F0 m 12 ls []) := by
    intro k2 hk2 k12 hk12 x1 x2 v_third H locs ls hl hG h
    unfold M_findThirds_n12 at h
    refine lv_iload_n hx hb dX9_findThirds_12 rfl (lv_at hl 2 rfl) ?_
    refine lv_aload_n hx hb dX9_findThirds_13 rfl (lv_at hl 0 rfl) ?_
    refine gx_get (v := .int (σ.1 3208)) (C := RX9) (T := TX9) (N := 44) hx hb hts mc_X9 hown hK hG (ga_50 g _) rfl 8 (by decide) hw3 rfl rfl dX9_findThirds_14 ?_
    refine lv_icmp_gt (tgt := 110) hx hb dX9_findThirds_17 (by decide) (fun c10 => ?_) (fun c10 => ?_)
    · have h := ite_t c10 h
      exact n110 k2 hk2 x1 v_third _ _ _ (lv_sub hl [0, 1] rfl) hG h
    · have h := ite_f c10 h
      refine lv_aload_n hx hb dX9_findThirds_20 rfl (lv_at hl 0 rfl) ?_
      refine gx_get (v := .ref (g.2.1 66)) (C := RX9) (T := TX9) (N := 44) hx hb hts mc_X9 hown hK hG (ga_50 g _) rfl 25 (by decide) hw0 rfl rfl dX9_findThirds_21 ?_
      refine lv_bipush (v := (36 : Int32)) hx hb dX9_findThirds_24 (by decide) ?_
      refine lv_iload_n hx hb dX9_findThirds_26 rfl (lv_at hl 1 rfl) ?_
      refine lv_imul hx hb dX9_findThirds_27 ?_
      refine lv_iload_n hx hb dX9_findThirds_28 rfl (lv_at hl 2 rfl) ?_
      refine lv_iadd hx hb dX9_findThirds_29 ?_
      refine lv_iload_n hx hb dX9_findThirds_30 rfl (lv_at hl 1 rfl) ?_
      refine lv_iload_n hx hb dX9_findThirds_31 rfl (lv_at hl 2 rfl) ?_
      refine lv_icmp_ne (tgt := 39) hx hb dX9_findThirds_32 (by decide) (fun c11 => ?_) (fun c11 => ?_)
      · have h := ite_f c11 h
        refine lv_lconst (v := (0 : Int64)) hx hb dX9_findThirds_39 (by decide) ?_
        exact n40 k12 hk12 x1 x2 (((36 : Int32) * x1) + x2) (0 : Int64) v_third _ _ _ (lv_sub hl [0, 1, 2] rfl) hG h
      · have h := ite_t c11 h
        refine lv_lconst (v := (1 : Int64)) hx hb dX9_findThirds_35 (by decide) ?_
        refine lv_goto (tgt := 40) hx hb dX9_findThirds_36 (by decide) ?_
        exact n40 k12 hk12 x1 x2 (((36 : Int32) * x1) + x2) (1 : Int64) v_third _ _ _ (lv_sub hl [0, 1, 2] rfl) hG h
  have l12 : ∀ (k2 : Int32 → (Nat → Int64) → Option (Int32 × (Nat → Int64))) (hk2 : ∀ (x1 : Int32) (v_third : Nat → Int64) (H : Heap) (locs : List Loc) (ls : Array Slot), lv_has ls 6 [(0, .ref (g.2.1 50)), (1, .int x1)] → GW g s (mkS σ [] [] [] [(66, v_third)]) H locs → k2 x1 v_third = some (r, w_third) → Wg p l e 1 23 s m args below meth c g (some (.int r)) (mkS σ [] [] [] [(66, w_third)]) H locs (F0 m 2 ls [])) (F : Nat) (x1 : Int32) (x2 : Int32) (v_third : Nat → Int64) (H : Heap) (locs : List Loc) (ls : Array Slot), lv_has ls 6 [(0, .ref (g.2.1 50)), (1, .int x1), (2, .int x2)] → GW g s (mkS σ [] [] [] [(66, v_third)]) H locs → M_findThirds_l12 k2 (σ.1 3208) (σ.2.2.1 56) (σ.2.2.1 57) F x1 x2 v_third = some (r, w_third) → Wg p l e 1 23 s m args below meth c g (some (.int r)) (mkS σ [] [] [] [(66, w_third)]) H locs (F0 m 12 ls []) := by
    intro k2 hk2 F
    induction F with
    | zero => intro x1 x2 v_third H locs ls hl hG h; exact no_some h
    | succ F ih => intro x1 x2 v_third H locs ls hl hG h; exact n12 k2 hk2 (fun x1 x2 v_third => M_findThirds_l12 k2 (σ.1 3208) (σ.2.2.1 56) (σ.2.2.1 57) F x1 x2 v_third) ih x1 x2 v_third H locs ls hl hG h
  have n284 : ∀ (v_third : Nat → Int64) (H : Heap) (locs : List Loc) (ls : Array Slot), lv_has ls 6 [] → GW g s (mkS σ [] [] [] [(66, v_third)]) H locs → M_findThirds_n284 v_third = some (r, w_third) → Wg p l e 1 23 s m args below meth c g (some (.int r)) (mkS σ [] [] [] [(66, w_third)]) H locs (F0 m 284 ls []) := by
    intro v_third H locs ls hl hG h
    unfold M_findThirds_n284 at h
    refine lv_iconst (v := (0 : Int32)) hx hb dX9_findThirds_284 (by decide) ?_
    cases h
    exact gx_zret hx hb hr hlocks (by decide) hG dX9_findThirds_285
  have n233 : ∀ (k138 : Int32 → Int32 → Int32 → (Nat → Int64) → Option (Int32 × (Nat → Int64))) (hk138 : ∀ (x1 : Int32) (x2 : Int32) (x3 : Int32) (v_third : Nat → Int64) (H : Heap) (locs : List Loc) (ls : Array Slot), lv_has ls 6 [(0, .ref (g.2.1 50)), (1, .int x1), (2, .int x2), (3, .int x3)] → GW g s (mkS σ [] [] [] [(66, v_third)]) H locs → k138 x1 x2 x3 v_third = some (r, w_third) → Wg p l e 1 23 s m args below meth c g (some (.int r)) (mkS σ [] [] [] [(66, w_third)]) H locs (F0 m 138 ls [])) (x1 : Int32) (x2 : Int32) (x3 : Int32) (t0 : Int64) (t1 : Int64) (v_third : Nat → Int64) (H : Heap) (locs : List Loc) (ls : Array Slot), lv_has ls 6 [(0, .ref (g.2.1 50)), (1, .int x1), (2, .int x2), (3, .int x3)] → GW g s (mkS σ [] [] [] [(66, v_third)]) H locs → M_findThirds_n233 k138 (σ.1 3208) (σ.2.2.1 56) (σ.2.2.1 57) x1 x2 x3 t0 t1 v_third = some (r, w_third) → Wg p l e 1 23 s m args below meth c g (some (.int r)) (mkS σ [] [] [] [(66, w_third)]) H locs (F0 m 233 ls [.long t1, .long t0]) := by
    intro k138 hk138 x1 x2 x3 t0 t1 v_third H locs ls hl hG h
    unfold M_findThirds_n233 at h
    refine lv_ladd hx hb dX9_findThirds_233 ?_
    refine lv_lstore (lv' := [(4, .long (t0 + t1)), (0, .ref (g.2.1 50)), (1, .int x1), (2, .int x2), (3, .int x3)]) hx hb dX9_findThirds_234 hl (Nat.le_of_ble_eq_true rfl) rfl (fun ls hl => ?_)
    refine lv_lload hx hb dX9_findThirds_236 (lv_at hl 0 rfl) ?_
    refine lv_aload_n hx hb dX9_findThirds_238 rfl (lv_at hl 1 rfl) ?_
    refine gx_get (v := .ref (g.2.1 56)) (C := RX9) (T := TX9) (N := 44) hx hb hts mc_X9 hown hK hG (ga_50 g _) rfl 9 (by decide) hw1 rfl rfl dX9_findThirds_239 ?_
    refine lv_iload_n hx hb dX9_findThirds_242 rfl (lv_at hl 2 rfl) ?_
    refine lv_iconst (v := (1 : Int32)) hx hb dX9_findThirds_243 (by decide) ?_
    refine lv_isub hx hb dX9_findThirds_244 ?_
    obtain ⟨hg12, h⟩ := gd_some h
    refine gx_iald (f := (σ.2.2.1 56)) hx hb hK hG (ga_56 g _) hg12 dX9_findThirds_245 ?_
    refine lv_i2l hx hb dX9_findThirds_246 rfl ?_
    refine lv_aload_n hx hb dX9_findThirds_247 rfl (lv_at hl 1 rfl) ?_
    refine lv_iload_n hx hb dX9_findThirds_248 rfl (lv_at hl 3 rfl) ?_
    refine lv_iload_n hx hb dX9_findThirds_249 rfl (lv_at hl 2 rfl) ?_
    refine lv_iconst (v := (1 : Int32)) hx hb dX9_findThirds_250 (by decide) ?_
    refine lv_isub hx hb dX9_findThirds_251 ?_
    refine lv_iload_n hx hb dX9_findThirds_252 rfl (lv_at hl 4 rfl) ?_
    obtain ⟨z13, hc14, h⟩ := bnd_some h
    refine gx_cV (σ' := (mkS σ [] [] [] [(66, v_third)])) (r := (some (.long z13))) (rest := [.long (((σ.2.2.1 56) ((x1 - (1 : Int32)).toNatClampNeg)).toInt64), .long (t0 + t1)]) (As := [.int x2, .int (x1 - (1 : Int32)), .int x3]) hS9 (c_M_thirdAt l g (mkS σ [] [] [] [(66, v_third)]) x2 (x1 - (1 : Int32)) x3 z13 hc14) rfl (cwV 3 hts (gz_V mw_5_229 mw_5_231 ms_4_12 mw_1_11 mw_5_232) rfl rfl rfl hdV_X9_thirdAt ⟨Nat.le_of_ble_eq_true rfl, Nat.le_of_ble_eq_true rfl⟩) hK hG (ga_50 g _) rfl rfl rfl hl.1 rfl (Nat.le_of_ble_eq_true rfl) dX9_findThirds_253 (fun H locs hG => ?_)
    refine W.eq (g2 := F0 m 256 ls [.long z13, .long (((σ.2.2.1 56) ((x1 - (1 : Int32)).toNatClampNeg)).toInt64), .long (t0 + t1)]) rfl ?_
    refine lv_lmul hx hb dX9_findThirds_256 ?_
    refine lv_lsub hx hb dX9_findThirds_257 ?_
    refine lv_topl (fun y15 ey15 => ?_)
    have h := lt_at h ey15
    refine lv_lstore (lv' := [(4, .long y15), (0, .ref (g.2.1 50)), (1, .int x1), (2, .int x2), (3, .int x3)]) hx hb dX9_findThirds_258 hl (Nat.le_of_ble_eq_true rfl) rfl (fun ls hl => ?_)
    refine lv_lload hx hb dX9_findThirds_260 (lv_at hl 0 rfl) ?_
    refine lv_lconst (v := (0 : Int64)) hx hb dX9_findThirds_262 (by decide) ?_
    refine W.lcmp hx hb dX9_findThirds_263 ?_
    refine lv_if_lt (tgt := 284) hx hb dX9_findThirds_264 (by decide) (fun c16 => ?_) (fun c16 => ?_)
    · have h := ite_t c16 h
      exact n284 v_third _ _ _ (lv_sub hl [] rfl) hG h
    · have h := ite_f c16 h
      refine lv_lload hx hb dX9_findThirds_267 (lv_at hl 0 rfl) ?_
      refine lv_aload_n hx hb dX9_findThirds_269 rfl (lv_at hl 1 rfl) ?_
      refine gx_get (v := .ref (g.2.1 57)) (C := RX9) (T := TX9) (N := 44) hx hb hts mc_X9 hown hK hG (ga_50 g _) rfl 10 (by decide) hw2 rfl rfl dX9_findThirds_270 ?_
      refine lv_iload_n hx hb dX9_findThirds_273 rfl (lv_at hl 2 rfl) ?_
      refine lv_iconst (v := (1 : Int32)) hx hb dX9_findThirds_274 (by decide) ?_
      refine lv_iadd hx hb dX9_findThirds_275 ?_
      obtain ⟨hg17, h⟩ := gd_some h
      refine gx_iald (f := (σ.2.2.1 57)) hx hb hK hG (ga_57 g _) hg17 dX9_findThirds_276 ?_
      refine lv_i2l hx hb dX9_findThirds_277 rfl ?_
      obtain ⟨hg18, h⟩ := gd_some h
      refine lv_lrem hx hb dX9_findThirds_278 (nzL_ne hg18) ?_
      refine lv_lconst (v := (0 : Int64)) hx hb dX9_findThirds_279 (by decide) ?_
      refine W.lcmp hx hb dX9_findThirds_280 ?_
      refine lv_if_eq (tgt := 286) hx hb dX9_findThirds_281 (by decide) (fun c19 => ?_) (fun c19 => ?_)
      · have h := ite_t c19 h
        refine lv_aload_n hx hb dX9_findThirds_286 rfl (lv_at hl 1 rfl) ?_
        refine gx_get (v := .ref (g.2.1 66)) (C := RX9) (T := TX9) (N := 44) hx hb hts mc_X9 hown hK hG (ga_50 g _) rfl 25 (by decide) hw0 rfl rfl dX9_findThirds_287 ?_
        refine lv_bipush (v := (36 : Int32)) hx hb dX9_findThirds_290 (by decide) ?_
        refine lv_iload_n hx hb dX9_findThirds_292 rfl (lv_at hl 3 rfl) ?_
        refine lv_imul hx hb dX9_findThirds_293 ?_
        refine lv_bipush (v := (6 : Int32)) hx hb dX9_findThirds_294 (by decide) ?_
        refine lv_iload_n hx hb dX9_findThirds_296 rfl (lv_at hl 2 rfl) ?_
        refine lv_iconst (v := (1 : Int32)) hx hb dX9_findThirds_297 (by decide) ?_
        refine lv_iadd hx hb dX9_findThirds_298 ?_
        refine lv_imul hx hb dX9_findThirds_299 ?_
        refine lv_iadd hx hb dX9_findThirds_300 ?_
        refine lv_iload_n hx hb dX9_findThirds_301 rfl (lv_at hl 4 rfl) ?_
        refine lv_iadd hx hb dX9_findThirds_302 ?_
        refine lv_lload hx hb dX9_findThirds_303 (lv_at hl 0 rfl) ?_
        refine lv_aload_n hx hb dX9_findThirds_305 rfl (lv_at hl 1 rfl) ?_
        refine gx_get (v := .ref (g.2.1 57)) (C := RX9) (T := TX9) (N := 44) hx hb hts mc_X9 hown hK hG (ga_50 g _) rfl 10 (by decide) hw2 rfl rfl dX9_findThirds_306 ?_
        refine lv_iload_n hx hb dX9_findThirds_309 rfl (lv_at hl 2 rfl) ?_
        refine lv_iconst (v := (1 : Int32)) hx hb dX9_findThirds_310 (by decide) ?_
        refine lv_iadd hx hb dX9_findThirds_311 ?_
        refine gx_iald (f := (σ.2.2.1 57)) hx hb hK hG (ga_57 g _) hg17 dX9_findThirds_312 ?_
        refine lv_i2l hx hb dX9_findThirds_313 rfl ?_
        refine lv_ldiv hx hb dX9_findThirds_314 (nzL_ne hg18) ?_
        refine lv_topl (fun y20 ey20 => ?_)
        have h := lt_at h ey20
        obtain ⟨hg21, h⟩ := gd_some h
        refine gx_last (σ' := (mkS σ [] [] [] [(66, (vp_updL v_third (((((36 : Int32) * x2) + ((6 : Int32) * (x1 + (1 : Int32)))) + x3).toNatClampNeg) y20))])) (f := v_third) hx hb hK hG (ga_66 g _) hg21 ((gs_66 g _ _).trans (congrArg (g_cells g) (mk_d 0 rfl rfl))) dX9_findThirds_315 (fun H locs hG => ?_)
        refine lv_iinc (v := (x3 + (1 : Int32))) (lv' := [(3, .int (x3 + (1 : Int32))), (4, .long y15), (0, .ref (g.2.1 50)), (1, .int x1), (2, .int x2)]) hx hb dX9_findThirds_316 hl (k := 4) rfl (congrArg (fun z => x3 + z) (by decide)) (Nat.le_of_ble_eq_true rfl) rfl (fun ls hl => ?_)
        refine lv_goto (tgt := 138) hx hb dX9_findThirds_319 (by decide) ?_
        exact hk138 x1 x2 (x3 + (1 : Int32)) (vp_updL v_third (((((36 : Int32) * x2) + ((6 : Int32) * (x1 + (1 : Int32)))) + x3).toNatClampNeg) y20) _ _ _ (lv_sub hl [2, 3, 4, 0] rfl) hG h
      · have h := ite_f c19 h
        exact n284 v_third _ _ _ (lv_sub hl [] rfl) hG h
  have n173 : ∀ (k138 : Int32 → Int32 → Int32 → (Nat → Int64) → Option (Int32 × (Nat → Int64))) (hk138 : ∀ (x1 : Int32) (x2 : Int32) (x3 : Int32) (v_third : Nat → Int64) (H : Heap) (locs : List Loc) (ls : Array Slot), lv_has ls 6 [(0, .ref (g.2.1 50)), (1, .int x1), (2, .int x2), (3, .int x3)] → GW g s (mkS σ [] [] [] [(66, v_third)]) H locs → k138 x1 x2 x3 v_third = some (r, w_third) → Wg p l e 1 23 s m args below meth c g (some (.int r)) (mkS σ [] [] [] [(66, w_third)]) H locs (F0 m 138 ls [])) (x1 : Int32) (x2 : Int32) (x3 : Int32) (t0 : Int64) (v_third : Nat → Int64) (H : Heap) (locs : List Loc) (ls : Array Slot), lv_has ls 6 [(0, .ref (g.2.1 50)), (1, .int x1), (2, .int x2), (3, .int x3)] → GW g s (mkS σ [] [] [] [(66, v_third)]) H locs → M_findThirds_n173 k138 (σ.1 3208) (σ.2.2.1 56) (σ.2.2.1 57) x1 x2 x3 t0 v_third = some (r, w_third) → Wg p l e 1 23 s m args below meth c g (some (.int r)) (mkS σ [] [] [] [(66, w_third)]) H locs (F0 m 173 ls [.long t0]) := by
    intro k138 hk138 x1 x2 x3 t0 v_third H locs ls hl hG h
    unfold M_findThirds_n173 at h
    refine lv_lstore (lv' := [(4, .long t0), (0, .ref (g.2.1 50)), (1, .int x1), (2, .int x2), (3, .int x3)]) hx hb dX9_findThirds_173 hl (Nat.le_of_ble_eq_true rfl) rfl (fun ls hl => ?_)
    refine lv_lload hx hb dX9_findThirds_175 (lv_at hl 0 rfl) ?_
    refine lv_aload_n hx hb dX9_findThirds_177 rfl (lv_at hl 1 rfl) ?_
    refine lv_iload_n hx hb dX9_findThirds_178 rfl (lv_at hl 4 rfl) ?_
    obtain ⟨z22, hc23, h⟩ := bnd_some h
    refine gx_cV (σ' := (mkS σ [] [] [] [(66, v_third)])) (r := (some (.int z22))) (rest := [.long t0]) (As := [.int x3]) hS9 (c_M_a l g (mkS σ [] [] [] [(66, v_third)]) x3 z22 hc23) rfl (cwV 1 hts (gz_V mw_5_216 mw_5_218 ms_4_9 mw_1_11 mw_5_219) rfl rfl rfl hdV_X9_a ⟨Nat.le_of_ble_eq_true rfl, Nat.le_of_ble_eq_true rfl⟩) hK hG (ga_50 g _) rfl rfl rfl hl.1 rfl (Nat.le_of_ble_eq_true rfl) dX9_findThirds_179 (fun H locs hG => ?_)
    refine W.eq (g2 := F0 m 182 ls [.int z22, .long t0]) rfl ?_
    refine lv_aload_n hx hb dX9_findThirds_182 rfl (lv_at hl 1 rfl) ?_
    refine lv_iload_n hx hb dX9_findThirds_183 rfl (lv_at hl 2 rfl) ?_
    obtain ⟨z24, hc25, h⟩ := bnd_some h
    refine gx_cV (σ' := (mkS σ [] [] [] [(66, v_third)])) (r := (some (.int z24))) (rest := [.int z22, .long t0]) (As := [.int x1]) hS9 (c_M_a l g (mkS σ [] [] [] [(66, v_third)]) x1 z24 hc25) rfl (cwV 1 hts (gz_V mw_5_216 mw_5_218 ms_4_9 mw_1_11 mw_5_219) rfl rfl rfl hdV_X9_a ⟨Nat.le_of_ble_eq_true rfl, Nat.le_of_ble_eq_true rfl⟩) hK hG (ga_50 g _) rfl rfl rfl hl.1 rfl (Nat.le_of_ble_eq_true rfl) dX9_findThirds_184 (fun H locs hG => ?_)
    refine W.eq (g2 := F0 m 187 ls [.int z24, .int z22, .long t0]) rfl ?_
    refine lv_isub hx hb dX9_findThirds_187 ?_
    refine lv_i2l hx hb dX9_findThirds_188 rfl ?_
    refine lv_aload_n hx hb dX9_findThirds_189 rfl (lv_at hl 1 rfl) ?_
    refine lv_iload_n hx hb dX9_findThirds_190 rfl (lv_at hl 3 rfl) ?_
    refine lv_iload_n hx hb dX9_findThirds_191 rfl (lv_at hl 2 rfl) ?_
    refine lv_iload_n hx hb dX9_findThirds_192 rfl (lv_at hl 4 rfl) ?_
    obtain ⟨z26, hc27, h⟩ := bnd_some h
    refine gx_cV (σ' := (mkS σ [] [] [] [(66, v_third)])) (r := (some (.long z26))) (rest := [.long ((z22 - z24).toInt64), .long t0]) (As := [.int x2, .int x1, .int x3]) hS9 (c_M_thirdAt l g (mkS σ [] [] [] [(66, v_third)]) x2 x1 x3 z26 hc27) rfl (cwV 3 hts (gz_V mw_5_229 mw_5_231 ms_4_12 mw_1_11 mw_5_232) rfl rfl rfl hdV_X9_thirdAt ⟨Nat.le_of_ble_eq_true rfl, Nat.le_of_ble_eq_true rfl⟩) hK hG (ga_50 g _) rfl rfl rfl hl.1 rfl (Nat.le_of_ble_eq_true rfl) dX9_findThirds_193 (fun H locs hG => ?_)
    refine W.eq (g2 := F0 m 196 ls [.long z26, .long ((z22 - z24).toInt64), .long t0]) rfl ?_
    refine lv_lmul hx hb dX9_findThirds_196 ?_
    refine lv_ladd hx hb dX9_findThirds_197 ?_
    refine lv_topl (fun y28 ey28 => ?_)
    have h := lt_at h ey28
    refine lv_lstore (lv' := [(4, .long y28), (0, .ref (g.2.1 50)), (1, .int x1), (2, .int x2), (3, .int x3)]) hx hb dX9_findThirds_198 hl (Nat.le_of_ble_eq_true rfl) rfl (fun ls hl => ?_)
    refine lv_lload hx hb dX9_findThirds_200 (lv_at hl 0 rfl) ?_
    refine lv_iload_n hx hb dX9_findThirds_202 rfl (lv_at hl 4 rfl) ?_
    refine lv_aload_n hx hb dX9_findThirds_203 rfl (lv_at hl 1 rfl) ?_
    refine gx_get (v := .int (σ.1 3208)) (C := RX9) (T := TX9) (N := 44) hx hb hts mc_X9 hown hK hG (ga_50 g _) rfl 8 (by decide) hw3 rfl rfl dX9_findThirds_204 ?_
    refine lv_icmp_ge (tgt := 232) hx hb dX9_findThirds_207 (by decide) (fun c29 => ?_) (fun c29 => ?_)
    · have h := ite_t c29 h
      refine lv_lconst (v := (0 : Int64)) hx hb dX9_findThirds_232 (by decide) ?_
      exact n233 k138 hk138 x1 x2 x3 y28 (0 : Int64) v_third _ _ _ (lv_sub hl [1, 2, 3, 4] rfl) hG h
    · have h := ite_f c29 h
      refine lv_aload_n hx hb dX9_findThirds_210 rfl (lv_at hl 1 rfl) ?_
      refine gx_get (v := .ref (g.2.1 57)) (C := RX9) (T := TX9) (N := 44) hx hb hts mc_X9 hown hK hG (ga_50 g _) rfl 10 (by decide) hw2 rfl rfl dX9_findThirds_211 ?_
      refine lv_iload_n hx hb dX9_findThirds_214 rfl (lv_at hl 4 rfl) ?_
      refine lv_iconst (v := (1 : Int32)) hx hb dX9_findThirds_215 (by decide) ?_
      refine lv_iadd hx hb dX9_findThirds_216 ?_
      obtain ⟨hg30, h⟩ := gd_some h
      refine gx_iald (f := (σ.2.2.1 57)) hx hb hK hG (ga_57 g _) hg30 dX9_findThirds_217 ?_
      refine lv_i2l hx hb dX9_findThirds_218 rfl ?_
      refine lv_aload_n hx hb dX9_findThirds_219 rfl (lv_at hl 1 rfl) ?_
      refine lv_iload_n hx hb dX9_findThirds_220 rfl (lv_at hl 3 rfl) ?_
      refine lv_iload_n hx hb dX9_findThirds_221 rfl (lv_at hl 2 rfl) ?_
      refine lv_iload_n hx hb dX9_findThirds_222 rfl (lv_at hl 4 rfl) ?_
      refine lv_iconst (v := (1 : Int32)) hx hb dX9_findThirds_223 (by decide) ?_
      refine lv_iadd hx hb dX9_findThirds_224 ?_
      obtain ⟨z31, hc32, h⟩ := bnd_some h
      refine gx_cV (σ' := (mkS σ [] [] [] [(66, v_third)])) (r := (some (.long z31))) (rest := [.long (((σ.2.2.1 57) ((x3 + (1 : Int32)).toNatClampNeg)).toInt64), .long y28]) (As := [.int x2, .int x1, .int (x3 + (1 : Int32))]) hS9 (c_M_thirdAt l g (mkS σ [] [] [] [(66, v_third)]) x2 x1 (x3 + (1 : Int32)) z31 hc32) rfl (cwV 3 hts (gz_V mw_5_229 mw_5_231 ms_4_12 mw_1_11 mw_5_232) rfl rfl rfl hdV_X9_thirdAt ⟨Nat.le_of_ble_eq_true rfl, Nat.le_of_ble_eq_true rfl⟩) hK hG (ga_50 g _) rfl rfl rfl hl.1 rfl (Nat.le_of_ble_eq_true rfl) dX9_findThirds_225 (fun H locs hG => ?_)
      refine W.eq (g2 := F0 m 228 ls [.long z31, .long (((σ.2.2.1 57) ((x3 + (1 : Int32)).toNatClampNeg)).toInt64), .long y28]) rfl ?_
      refine lv_lmul hx hb dX9_findThirds_228 ?_
      refine lv_goto (tgt := 233) hx hb dX9_findThirds_229 (by decide) ?_
      exact n233 k138 hk138 x1 x2 x3 y28 ((((σ.2.2.1 57) ((x3 + (1 : Int32)).toNatClampNeg)).toInt64) * z31) v_third _ _ _ (lv_sub hl [1, 2, 3, 4] rfl) hG h
  have n322 : ∀ (k128 : Int32 → Int32 → (Nat → Int64) → Option (Int32 × (Nat → Int64))) (hk128 : ∀ (x1 : Int32) (x2 : Int32) (v_third : Nat → Int64) (H : Heap) (locs : List Loc) (ls : Array Slot), lv_has ls 6 [(0, .ref (g.2.1 50)), (1, .int x1), (2, .int x2)] → GW g s (mkS σ [] [] [] [(66, v_third)]) H locs → k128 x1 x2 v_third = some (r, w_third) → Wg p l e 1 23 s m args below meth c g (some (.int r)) (mkS σ [] [] [] [(66, w_third)]) H locs (F0 m 128 ls [])) (x1 : Int32) (x2 : Int32) (v_third : Nat → Int64) (H : Heap) (locs : List Loc) (ls : Array Slot), lv_has ls 6 [(0, .ref (g.2.1 50)), (1, .int x1), (2, .int x2)] → GW g s (mkS σ [] [] [] [(66, v_third)]) H locs → M_findThirds_n322 k128 x1 x2 v_third = some (r, w_third) → Wg p l e 1 23 s m args below meth c g (some (.int r)) (mkS σ [] [] [] [(66, w_third)]) H locs (F0 m 322 ls []) := by
    intro k128 hk128 x1 x2 v_third H locs ls hl hG h
    unfold M_findThirds_n322 at h
    refine lv_iinc (v := (x2 + (1 : Int32))) (lv' := [(2, .int (x2 + (1 : Int32))), (0, .ref (g.2.1 50)), (1, .int x1)]) hx hb dX9_findThirds_322 hl (k := 2) rfl (congrArg (fun z => x2 + z) (by decide)) (Nat.le_of_ble_eq_true rfl) rfl (fun ls hl => ?_)
    refine lv_goto (tgt := 128) hx hb dX9_findThirds_325 (by decide) ?_
    exact hk128 x1 (x2 + (1 : Int32)) v_third _ _ _ (lv_sub hl [1, 2, 0] rfl) hG h
  have n138 : ∀ (k128 : Int32 → Int32 → (Nat → Int64) → Option (Int32 × (Nat → Int64))) (hk128 : ∀ (x1 : Int32) (x2 : Int32) (v_third : Nat → Int64) (H : Heap) (locs : List Loc) (ls : Array Slot), lv_has ls 6 [(0, .ref (g.2.1 50)), (1, .int x1), (2, .int x2)] → GW g s (mkS σ [] [] [] [(66, v_third)]) H locs → k128 x1 x2 v_third = some (r, w_third) → Wg p l e 1 23 s m args below meth c g (some (.int r)) (mkS σ [] [] [] [(66, w_third)]) H locs (F0 m 128 ls [])) (k138 : Int32 → Int32 → Int32 → (Nat → Int64) → Option (Int32 × (Nat → Int64))) (hk138 : ∀ (x1 : Int32) (x2 : Int32) (x3 : Int32) (v_third : Nat → Int64) (H : Heap) (locs : List Loc) (ls : Array Slot), lv_has ls 6 [(0, .ref (g.2.1 50)), (1, .int x1), (2, .int x2), (3, .int x3)] → GW g s (mkS σ [] [] [] [(66, v_third)]) H locs → k138 x1 x2 x3 v_third = some (r, w_third) → Wg p l e 1 23 s m args below meth c g (some (.int r)) (mkS σ [] [] [] [(66, w_third)]) H locs (F0 m 138 ls [])) (x1 : Int32) (x2 : Int32) (x3 : Int32) (v_third : Nat → Int64) (H : Heap) (locs : List Loc) (ls : Array Slot), lv_has ls 6 [(0, .ref (g.2.1 50)), (1, .int x1), (2, .int x2), (3, .int x3)] → GW g s (mkS σ [] [] [] [(66, v_third)]) H locs → M_findThirds_n138 k128 k138 (σ.1 3208) (σ.2.2.1 56) (σ.2.2.1 57) x1 x2 x3 v_third = some (r, w_third) → Wg p l e 1 23 s m args below meth c g (some (.int r)) (mkS σ [] [] [] [(66, w_third)]) H locs (F0 m 138 ls []) := by
    intro k128 hk128 k138 hk138 x1 x2 x3 v_third H locs ls hl hG h
    unfold M_findThirds_n138 at h
    refine lv_iload_n hx hb dX9_findThirds_138 rfl (lv_at hl 3 rfl) ?_
    refine lv_aload_n hx hb dX9_findThirds_139 rfl (lv_at hl 0 rfl) ?_
    refine gx_get (v := .int (σ.1 3208)) (C := RX9) (T := TX9) (N := 44) hx hb hts mc_X9 hown hK hG (ga_50 g _) rfl 8 (by decide) hw3 rfl rfl dX9_findThirds_140 ?_
    refine lv_icmp_gt (tgt := 322) hx hb dX9_findThirds_143 (by decide) (fun c33 => ?_) (fun c33 => ?_)
    · have h := ite_t c33 h
      exact n322 k128 hk128 x1 x2 v_third _ _ _ (lv_sub hl [0, 1, 2] rfl) hG h
    · have h := ite_f c33 h
      refine lv_iload_n hx hb dX9_findThirds_146 rfl (lv_at hl 3 rfl) ?_
      refine lv_if_le (tgt := 172) hx hb dX9_findThirds_147 (by decide) (fun c34 => ?_) (fun c34 => ?_)
      · have h := ite_t c34 h
        refine lv_lconst (v := (0 : Int64)) hx hb dX9_findThirds_172 (by decide) ?_
        exact n173 k138 hk138 x1 x2 x3 (0 : Int64) v_third _ _ _ (lv_sub hl [0, 1, 2, 3] rfl) hG h
      · have h := ite_f c34 h
        refine lv_aload_n hx hb dX9_findThirds_150 rfl (lv_at hl 0 rfl) ?_
        refine gx_get (v := .ref (g.2.1 56)) (C := RX9) (T := TX9) (N := 44) hx hb hts mc_X9 hown hK hG (ga_50 g _) rfl 9 (by decide) hw1 rfl rfl dX9_findThirds_151 ?_
        refine lv_iload_n hx hb dX9_findThirds_154 rfl (lv_at hl 3 rfl) ?_
        refine lv_iconst (v := (1 : Int32)) hx hb dX9_findThirds_155 (by decide) ?_
        refine lv_isub hx hb dX9_findThirds_156 ?_
        obtain ⟨hg35, h⟩ := gd_some h
        refine gx_iald (f := (σ.2.2.1 56)) hx hb hK hG (ga_56 g _) hg35 dX9_findThirds_157 ?_
        refine lv_i2l hx hb dX9_findThirds_158 rfl ?_
        refine lv_aload_n hx hb dX9_findThirds_159 rfl (lv_at hl 0 rfl) ?_
        refine lv_iload_n hx hb dX9_findThirds_160 rfl (lv_at hl 2 rfl) ?_
        refine lv_iload_n hx hb dX9_findThirds_161 rfl (lv_at hl 1 rfl) ?_
        refine lv_iload_n hx hb dX9_findThirds_162 rfl (lv_at hl 3 rfl) ?_
        refine lv_iconst (v := (1 : Int32)) hx hb dX9_findThirds_163 (by decide) ?_
        refine lv_isub hx hb dX9_findThirds_164 ?_
        obtain ⟨z36, hc37, h⟩ := bnd_some h
        refine gx_cV (σ' := (mkS σ [] [] [] [(66, v_third)])) (r := (some (.long z36))) (rest := [.long (((σ.2.2.1 56) ((x3 - (1 : Int32)).toNatClampNeg)).toInt64)]) (As := [.int x2, .int x1, .int (x3 - (1 : Int32))]) hS9 (c_M_thirdAt l g (mkS σ [] [] [] [(66, v_third)]) x2 x1 (x3 - (1 : Int32)) z36 hc37) rfl (cwV 3 hts (gz_V mw_5_229 mw_5_231 ms_4_12 mw_1_11 mw_5_232) rfl rfl rfl hdV_X9_thirdAt ⟨Nat.le_of_ble_eq_true rfl, Nat.le_of_ble_eq_true rfl⟩) hK hG (ga_50 g _) rfl rfl rfl hl.1 rfl (Nat.le_of_ble_eq_true rfl) dX9_findThirds_165 (fun H locs hG => ?_)
        refine W.eq (g2 := F0 m 168 ls [.long z36, .long (((σ.2.2.1 56) ((x3 - (1 : Int32)).toNatClampNeg)).toInt64)]) rfl ?_
        refine lv_lmul hx hb dX9_findThirds_168 ?_
        refine lv_goto (tgt := 173) hx hb dX9_findThirds_169 (by decide) ?_
        exact n173 k138 hk138 x1 x2 x3 ((((σ.2.2.1 56) ((x3 - (1 : Int32)).toNatClampNeg)).toInt64) * z36) v_third _ _ _ (lv_sub hl [0, 1, 2, 3] rfl) hG h
  have l138 : ∀ (k128 : Int32 → Int32 → (Nat → Int64) → Option (Int32 × (Nat → Int64))) (hk128 : ∀ (x1 : Int32) (x2 : Int32) (v_third : Nat → Int64) (H : Heap) (locs : List Loc) (ls : Array Slot), lv_has ls 6 [(0, .ref (g.2.1 50)), (1, .int x1), (2, .int x2)] → GW g s (mkS σ [] [] [] [(66, v_third)]) H locs → k128 x1 x2 v_third = some (r, w_third) → Wg p l e 1 23 s m args below meth c g (some (.int r)) (mkS σ [] [] [] [(66, w_third)]) H locs (F0 m 128 ls [])) (F : Nat) (x1 : Int32) (x2 : Int32) (x3 : Int32) (v_third : Nat → Int64) (H : Heap) (locs : List Loc) (ls : Array Slot), lv_has ls 6 [(0, .ref (g.2.1 50)), (1, .int x1), (2, .int x2), (3, .int x3)] → GW g s (mkS σ [] [] [] [(66, v_third)]) H locs → M_findThirds_l138 k128 (σ.1 3208) (σ.2.2.1 56) (σ.2.2.1 57) F x1 x2 x3 v_third = some (r, w_third) → Wg p l e 1 23 s m args below meth c g (some (.int r)) (mkS σ [] [] [] [(66, w_third)]) H locs (F0 m 138 ls []) := by
    intro k128 hk128 F
    induction F with
    | zero => intro x1 x2 x3 v_third H locs ls hl hG h; exact no_some h
    | succ F ih => intro x1 x2 x3 v_third H locs ls hl hG h; exact n138 k128 hk128 (fun x1 x2 x3 v_third => M_findThirds_l138 k128 (σ.1 3208) (σ.2.2.1 56) (σ.2.2.1 57) F x1 x2 x3 v_third) ih x1 x2 x3 v_third H locs ls hl hG h
  have n328 : ∀ (k118 : Int32 → (Nat → Int64) → Option (Int32 × (Nat → Int64))) (hk118 : ∀ (x1 : Int32) (v_third : Nat → Int64) (H : Heap) (locs : List Loc) (ls : Array Slot), lv_has ls 6 [(0, .ref (g.2.1 50)), (1, .int x1)] → GW g s (mkS σ [] [] [] [(66, v_third)]) H locs → k118 x1 v_third = some (r, w_third) → Wg p l e 1 23 s m args below meth c g (some (.int r)) (mkS σ [] [] [] [(66, w_third)]) H locs (F0 m 118 ls [])) (x1 : Int32) (v_third : Nat → Int64) (H : Heap) (locs : List Loc) (ls : Array Slot), lv_has ls 6 [(0, .ref (g.2.1 50)), (1, .int x1)] → GW g s (mkS σ [] [] [] [(66, v_third)]) H locs → M_findThirds_n328 k118 x1 v_third = some (r, w_third) → Wg p l e 1 23 s m args below meth c g (some (.int r)) (mkS σ [] [] [] [(66, w_third)]) H locs (F0 m 328 ls []) := by
    intro k118 hk118 x1 v_third H locs ls hl hG h
    unfold M_findThirds_n328 at h
    refine lv_iinc (v := (x1 + (1 : Int32))) (lv' := [(1, .int (x1 + (1 : Int32))), (0, .ref (g.2.1 50))]) hx hb dX9_findThirds_328 hl (k := 1) rfl (congrArg (fun z => x1 + z) (by decide)) (Nat.le_of_ble_eq_true rfl) rfl (fun ls hl => ?_)
    refine lv_goto (tgt := 118) hx hb dX9_findThirds_331 (by decide) ?_
    exact hk118 (x1 + (1 : Int32)) v_third _ _ _ (lv_sub hl [1, 0] rfl) hG h
  have n128 : ∀ (k118 : Int32 → (Nat → Int64) → Option (Int32 × (Nat → Int64))) (hk118 : ∀ (x1 : Int32) (v_third : Nat → Int64) (H : Heap) (locs : List Loc) (ls : Array Slot), lv_has ls 6 [(0, .ref (g.2.1 50)), (1, .int x1)] → GW g s (mkS σ [] [] [] [(66, v_third)]) H locs → k118 x1 v_third = some (r, w_third) → Wg p l e 1 23 s m args below meth c g (some (.int r)) (mkS σ [] [] [] [(66, w_third)]) H locs (F0 m 118 ls [])) (k128 : Int32 → Int32 → (Nat → Int64) → Option (Int32 × (Nat → Int64))) (hk128 : ∀ (x1 : Int32) (x2 : Int32) (v_third : Nat → Int64) (H : Heap) (locs : List Loc) (ls : Array Slot), lv_has ls 6 [(0, .ref (g.2.1 50)), (1, .int x1), (2, .int x2)] → GW g s (mkS σ [] [] [] [(66, v_third)]) H locs → k128 x1 x2 v_third = some (r, w_third) → Wg p l e 1 23 s m args below meth c g (some (.int r)) (mkS σ [] [] [] [(66, w_third)]) H locs (F0 m 128 ls [])) (x1 : Int32) (x2 : Int32) (v_third : Nat → Int64) (H : Heap) (locs : List Loc) (ls : Array Slot), lv_has ls 6 [(0, .ref (g.2.1 50)), (1, .int x1), (2, .int x2)] → GW g s (mkS σ [] [] [] [(66, v_third)]) H locs → M_findThirds_n128 k118 k128 (σ.1 3208) (σ.2.2.1 56) (σ.2.2.1 57) x1 x2 v_third = some (r, w_third) → Wg p l e 1 23 s m args below meth c g (some (.int r)) (mkS σ [] [] [] [(66, w_third)]) H locs (F0 m 128 ls []) := by
    intro k118 hk118 k128 hk128 x1 x2 v_third H locs ls hl hG h
    unfold M_findThirds_n128 at h
    refine lv_iload_n hx hb dX9_findThirds_128 rfl (lv_at hl 2 rfl) ?_
    refine lv_aload_n hx hb dX9_findThirds_129 rfl (lv_at hl 0 rfl) ?_
    refine gx_get (v := .int (σ.1 3208)) (C := RX9) (T := TX9) (N := 44) hx hb hts mc_X9 hown hK hG (ga_50 g _) rfl 8 (by decide) hw3 rfl rfl dX9_findThirds_130 ?_
    refine lv_icmp_gt (tgt := 328) hx hb dX9_findThirds_133 (by decide) (fun c38 => ?_) (fun c38 => ?_)
    · have h := ite_t c38 h
      exact n328 k118 hk118 x1 v_third _ _ _ (lv_sub hl [0, 1] rfl) hG h
    · have h := ite_f c38 h
      refine lv_iconst (v := (0 : Int32)) hx hb dX9_findThirds_136 (by decide) ?_
      refine lv_istore_n (lv' := [(3, .int (0 : Int32)), (0, .ref (g.2.1 50)), (1, .int x1), (2, .int x2)]) hx hb dX9_findThirds_137 rfl hl (Nat.le_of_ble_eq_true rfl) rfl (fun ls hl => ?_)
      exact l138 k128 hk128 FUEL x1 x2 (0 : Int32) v_third _ _ _ (lv_sub hl [1, 2, 3, 0] rfl) hG h
  have l128 : ∀ (k118 : Int32 → (Nat → Int64) → Option (Int32 × (Nat → Int64))) (hk118 : ∀ (x1 : Int32) (v_third : Nat → Int64) (H : Heap) (locs : List Loc) (ls : Array Slot), lv_has ls 6 [(0, .ref (g.2.1 50)), (1, .int x1)] → GW g s (mkS σ [] [] [] [(66, v_third)]) H locs → k118 x1 v_third = some (r, w_third) → Wg p l e 1 23 s m args below meth c g (some (.int r)) (mkS σ [] [] [] [(66, w_third)]) H locs (F0 m 118 ls [])) (F : Nat) (x1 : Int32) (x2 : Int32) (v_third : Nat → Int64) (H : Heap) (locs : List Loc) (ls : Array Slot), lv_has ls 6 [(0, .ref (g.2.1 50)), (1, .int x1), (2, .int x2)] → GW g s (mkS σ [] [] [] [(66, v_third)]) H locs → M_findThirds_l128 k118 (σ.1 3208) (σ.2.2.1 56) (σ.2.2.1 57) F x1 x2 v_third = some (r, w_third) → Wg p l e 1 23 s m args below meth c g (some (.int r)) (mkS σ [] [] [] [(66, w_third)]) H locs (F0 m 128 ls []) := by
    intro k118 hk118 F
    induction F with
    | zero => intro x1 x2 v_third H locs ls hl hG h; exact no_some h
    | succ F ih => intro x1 x2 v_third H locs ls hl hG h; exact n128 k118 hk118 (fun x1 x2 v_third => M_findThirds_l128 k118 (σ.1 3208) (σ.2.2.1 56) (σ.2.2.1 57) F x1 x2 v_third) ih x1 x2 v_third H locs ls hl hG h
  have n334 : ∀ (v_third : Nat → Int64) (H : Heap) (locs : List Loc) (ls : Array Slot), lv_has ls 6 [] → GW g s (mkS σ [] [] [] [(66, v_third)]) H locs → M_findThirds_n334 v_third = some (r, w_third) → Wg p l e 1 23 s m args below meth c g (some (.int r)) (mkS σ [] [] [] [(66, w_third)]) H locs (F0 m 334 ls []) := by
    intro v_third H locs ls hl hG h
    unfold M_findThirds_n334 at h
    refine lv_iconst (v := (1 : Int32)) hx hb dX9_findThirds_334 (by decide) ?_
    cases h
    exact gx_zret hx hb hr hlocks (by decide) hG dX9_findThirds_335
  have n118 : ∀ (k118 : Int32 → (Nat → Int64) → Option (Int32 × (Nat → Int64))) (hk118 : ∀ (x1 : Int32) (v_third : Nat → Int64) (H : Heap) (locs : List Loc) (ls : Array Slot), lv_has ls 6 [(0, .ref (g.2.1 50)), (1, .int x1)] → GW g s (mkS σ [] [] [] [(66, v_third)]) H locs → k118 x1 v_third = some (r, w_third) → Wg p l e 1 23 s m args below meth c g (some (.int r)) (mkS σ [] [] [] [(66, w_third)]) H locs (F0 m 118 ls [])) (x1 : Int32) (v_third : Nat → Int64) (H : Heap) (locs : List Loc) (ls : Array Slot), lv_has ls 6 [(0, .ref (g.2.1 50)), (1, .int x1)] → GW g s (mkS σ [] [] [] [(66, v_third)]) H locs → M_findThirds_n118 k118 (σ.1 3208) (σ.2.2.1 56) (σ.2.2.1 57) x1 v_third = some (r, w_third) → Wg p l e 1 23 s m args below meth c g (some (.int r)) (mkS σ [] [] [] [(66, w_third)]) H locs (F0 m 118 ls []) := by
    intro k118 hk118 x1 v_third H locs ls hl hG h
    unfold M_findThirds_n118 at h
    refine lv_iload_n hx hb dX9_findThirds_118 rfl (lv_at hl 1 rfl) ?_
    refine lv_aload_n hx hb dX9_findThirds_119 rfl (lv_at hl 0 rfl) ?_
    refine gx_get (v := .int (σ.1 3208)) (C := RX9) (T := TX9) (N := 44) hx hb hts mc_X9 hown hK hG (ga_50 g _) rfl 8 (by decide) hw3 rfl rfl dX9_findThirds_120 ?_
    refine lv_icmp_ge (tgt := 334) hx hb dX9_findThirds_123 (by decide) (fun c39 => ?_) (fun c39 => ?_)
    · have h := ite_t c39 h
      exact n334 v_third _ _ _ (lv_sub hl [] rfl) hG h
    · have h := ite_f c39 h
      refine lv_iconst (v := (0 : Int32)) hx hb dX9_findThirds_126 (by decide) ?_
      refine lv_istore_n (lv' := [(2, .int (0 : Int32)), (0, .ref (g.2.1 50)), (1, .int x1)]) hx hb dX9_findThirds_127 rfl hl (Nat.le_of_ble_eq_true rfl) rfl (fun ls hl => ?_)
      exact l128 k118 hk118 FUEL x1 (0 : Int32) v_third _ _ _ (lv_sub hl [1, 2, 0] rfl) hG h
  have l118 : ∀  (F : Nat) (x1 : Int32) (v_third : Nat → Int64) (H : Heap) (locs : List Loc) (ls : Array Slot), lv_has ls 6 [(0, .ref (g.2.1 50)), (1, .int x1)] → GW g s (mkS σ [] [] [] [(66, v_third)]) H locs → M_findThirds_l118 (σ.1 3208) (σ.2.2.1 56) (σ.2.2.1 57) F x1 v_third = some (r, w_third) → Wg p l e 1 23 s m args below meth c g (some (.int r)) (mkS σ [] [] [] [(66, w_third)]) H locs (F0 m 118 ls []) := by
    intro F
    induction F with
    | zero => intro x1 v_third H locs ls hl hG h; exact no_some h
    | succ F ih => intro x1 v_third H locs ls hl hG h; exact n118 (fun x1 v_third => M_findThirds_l118 (σ.1 3208) (σ.2.2.1 56) (σ.2.2.1 57) F x1 v_third) ih x1 v_third H locs ls hl hG h
  have n116 : ∀ (v_third : Nat → Int64) (H : Heap) (locs : List Loc) (ls : Array Slot), lv_has ls 6 [(0, .ref (g.2.1 50))] → GW g s (mkS σ [] [] [] [(66, v_third)]) H locs → M_findThirds_n116 (σ.1 3208) (σ.2.2.1 56) (σ.2.2.1 57) v_third = some (r, w_third) → Wg p l e 1 23 s m args below meth c g (some (.int r)) (mkS σ [] [] [] [(66, w_third)]) H locs (F0 m 116 ls []) := by
    intro v_third H locs ls hl hG h
    unfold M_findThirds_n116 at h
    refine lv_iconst (v := (1 : Int32)) hx hb dX9_findThirds_116 (by decide) ?_
    refine lv_istore_n (lv' := [(1, .int (1 : Int32)), (0, .ref (g.2.1 50))]) hx hb dX9_findThirds_117 rfl hl (Nat.le_of_ble_eq_true rfl) rfl (fun ls hl => ?_)
    exact l118 FUEL (1 : Int32) v_third _ _ _ (lv_sub hl [1, 0] rfl) hG h
  have n2 : ∀ (k2 : Int32 → (Nat → Int64) → Option (Int32 × (Nat → Int64))) (hk2 : ∀ (x1 : Int32) (v_third : Nat → Int64) (H : Heap) (locs : List Loc) (ls : Array Slot), lv_has ls 6 [(0, .ref (g.2.1 50)), (1, .int x1)] → GW g s (mkS σ [] [] [] [(66, v_third)]) H locs → k2 x1 v_third = some (r, w_third) → Wg p l e 1 23 s m args below meth c g (some (.int r)) (mkS σ [] [] [] [(66, w_third)]) H locs (F0 m 2 ls [])) (x1 : Int32) (v_third : Nat → Int64) (H : Heap) (locs : List Loc) (ls : Array Slot), lv_has ls 6 [(0, .ref (g.2.1 50)), (1, .int x1)] → GW g s (mkS σ [] [] [] [(66, v_third)]) H locs → M_findThirds_n2 k2 (σ.1 3208) (σ.2.2.1 56) (σ.2.2.1 57) x1 v_third = some (r, w_third) → Wg p l e 1 23 s m args below meth c g (some (.int r)) (mkS σ [] [] [] [(66, w_third)]) H locs (F0 m 2 ls []) := by
    intro k2 hk2 x1 v_third H locs ls hl hG h
    unfold M_findThirds_n2 at h
    refine lv_iload_n hx hb dX9_findThirds_2 rfl (lv_at hl 1 rfl) ?_
    refine lv_aload_n hx hb dX9_findThirds_3 rfl (lv_at hl 0 rfl) ?_
    refine gx_get (v := .int (σ.1 3208)) (C := RX9) (T := TX9) (N := 44) hx hb hts mc_X9 hown hK hG (ga_50 g _) rfl 8 (by decide) hw3 rfl rfl dX9_findThirds_4 ?_
    refine lv_icmp_gt (tgt := 116) hx hb dX9_findThirds_7 (by decide) (fun c40 => ?_) (fun c40 => ?_)
    · have h := ite_t c40 h
      exact n116 v_third _ _ _ (lv_sub hl [0] rfl) hG h
    · have h := ite_f c40 h
      refine lv_iconst (v := (0 : Int32)) hx hb dX9_findThirds_10 (by decide) ?_
      refine lv_istore_n (lv' := [(2, .int (0 : Int32)), (0, .ref (g.2.1 50)), (1, .int x1)]) hx hb dX9_findThirds_11 rfl hl (Nat.le_of_ble_eq_true rfl) rfl (fun ls hl => ?_)
      exact l12 k2 hk2 FUEL x1 (0 : Int32) v_third _ _ _ (lv_sub hl [1, 2, 0] rfl) hG h
  have l2 : ∀  (F : Nat) (x1 : Int32) (v_third : Nat → Int64) (H : Heap) (locs : List Loc) (ls : Array Slot), lv_has ls 6 [(0, .ref (g.2.1 50)), (1, .int x1)] → GW g s (mkS σ [] [] [] [(66, v_third)]) H locs → M_findThirds_l2 (σ.1 3208) (σ.2.2.1 56) (σ.2.2.1 57) F x1 v_third = some (r, w_third) → Wg p l e 1 23 s m args below meth c g (some (.int r)) (mkS σ [] [] [] [(66, w_third)]) H locs (F0 m 2 ls []) := by
    intro F
    induction F with
    | zero => intro x1 v_third H locs ls hl hG h; exact no_some h
    | succ F ih => intro x1 v_third H locs ls hl hG h; exact n2 (fun x1 v_third => M_findThirds_l2 (σ.1 3208) (σ.2.2.1 56) (σ.2.2.1 57) F x1 v_third) ih x1 v_third H locs ls hl hG h
  refine lv_iconst (v := (0 : Int32)) hx hb dX9_findThirds_0 (by decide) ?_
  refine lv_istore_n (lv' := [(1, .int (0 : Int32)), (0, .ref (g.2.1 50))]) hx hb dX9_findThirds_1 rfl hl (Nat.le_of_ble_eq_true rfl) rfl (fun ls hl => ?_)
  exact l2 FUEL (0 : Int32) (σ.2.2.2 66) _ _ _ (lv_sub hl [1, 0] rfl) hG h

set_option maxHeartbeats 4000000 in
set_option maxRecDepth 100000 in
theorem c_M_laws (l : Launch) (g : GC) (σ : St) (r : Int32) (w_all : Int64) (w_sizes : Nat → Int64) (w_third : Nat → Int64) (h : M_laws (σ.1 3208) (σ.2.1 3224) (σ.2.2.1 56) (σ.2.2.1 57) (σ.2.2.2 65) (σ.2.2.2 66) = some (r, w_all, w_sizes, w_third)) : Cn l g yX9_laws (Cond.code yX9_laws cX9_laws 2 (some .int) :: wG) 2 48 [.ref (g.2.1 50)] σ (some (.int r)) (mkS σ [] [(3224, w_all)] [] [(65, w_sizes), (66, w_third)]) := by
  unfold Cn
  refine Met.ofW (cc := cX9_laws) (maxL := 2) (ret := (some .int)) (by decide) rfl ?_
  intro p e s m args below meth c s₁ B hml hv
  obtain ⟨hargs, hP0, hK⟩ := hv
  have hx := B.exec
  have hb := B.bytes
  have hr := B.returns
  have hts : ∀ w ∈ wG, w.before args s = true := fun w h => atoms_spec (ws := (Cond.code yX9_laws cX9_laws 2 (some .int) :: wG)) B.pre w (List.mem_cons_of_mem _ h)
  have hown : s.vm.findClass RX9 = some m.cls := findClass_of_methodNamed B.named
  have hlocks := B.notSynchronized
  have hS9 : CallFix p m c cX9_laws 2 s args wG RX9 := ⟨hx, hb, hml, hown, hts⟩
  have hf9 : entryFrame m args 2 = _ := (congrArg (fun a => entryFrame m a 2) hargs).trans (lg_entry_eq m [.ref (g.2.1 50)] 2)
  show Wg p l e 2 48 s m args below meth c g (some (.int r)) (mkS σ [] [(3224, w_all)] [] [(65, w_sizes), (66, w_third)]) s.heap [] (entryFrame m args 2)
  rw [hf9]
  have hl := lv_entry ([.ref (g.2.1 50)]) (n := 2) (Nat.le_of_ble_eq_true rfl)
  generalize (lg_sl ([.ref (g.2.1 50)]) ++ List.replicate (2 - (lg_sl ([.ref (g.2.1 50)])).length) Slot.unset).toArray = ls at hl ⊢
  have hl : lv_has ls 2 [(0, .ref (g.2.1 50))] := hl
  have hG : GW g s σ s.heap [] := ⟨hP0, va_S.rf⟩
  have hG : GW g s (mkS σ [] [(3224, (σ.2.1 3224))] [] [(65, (σ.2.2.2 65)), (66, (σ.2.2.2 66))]) s.heap [] := GW_self [] [3224] [] [65, 66] hG
  unfold M_laws at h
  have n35 : ∀ (t0 : Int32) (v_all : Int64) (v_sizes : Nat → Int64) (v_third : Nat → Int64) (H : Heap) (locs : List Loc) (ls : Array Slot), lv_has ls 2 [] → GW g s (mkS σ [] [(3224, v_all)] [] [(65, v_sizes), (66, v_third)]) H locs → M_laws_n35 t0 v_all v_sizes v_third = some (r, w_all, w_sizes, w_third) → Wg p l e 2 48 s m args below meth c g (some (.int r)) (mkS σ [] [(3224, w_all)] [] [(65, w_sizes), (66, w_third)]) H locs (F0 m 35 ls [.int t0]) := by
    intro t0 v_all v_sizes v_third H locs ls hl hG h
    unfold M_laws_n35 at h
    cases h
    exact gx_iret hx hb hr hlocks hG dX9_laws_35
  refine lv_aload_n hx hb dX9_laws_0 rfl (lv_at hl 0 rfl) ?_
  obtain ⟨z1, hc2, h⟩ := bnd_some h
  refine gx_cV (σ' := (mkS σ [] [(3224, z1.2.1)] [] [(65, z1.2.2), (66, (σ.2.2.2 66))])) (r := (some (.int z1.1))) (rest := []) (As := []) hS9 (c_M_firstLaws l g (mkS σ [] [(3224, (σ.2.1 3224))] [] [(65, (σ.2.2.2 65)), (66, (σ.2.2.2 66))]) z1.1 z1.2.1 z1.2.2 hc2) (mk_mk rfl rfl rfl rfl) (cwV 0 hts (gz_V mw_5_212 mw_5_214 ms_4_8 mw_1_11 mw_5_215) rfl rfl rfl hdV_X9_firstLaws ⟨Nat.le_of_ble_eq_true rfl, Nat.le_of_ble_eq_true rfl⟩) hK hG (ga_50 g _) rfl rfl rfl hl.1 rfl (Nat.le_of_ble_eq_true rfl) dX9_laws_1 (fun H locs hG => ?_)
  refine W.eq (g2 := F0 m 4 ls [.int z1.1]) rfl ?_
  refine lv_istore_n (lv' := [(1, .int z1.1), (0, .ref (g.2.1 50))]) hx hb dX9_laws_4 rfl hl (Nat.le_of_ble_eq_true rfl) rfl (fun ls hl => ?_)
  refine lv_iload_n hx hb dX9_laws_5 rfl (lv_at hl 0 rfl) ?_
  refine lv_if_le (tgt := 11) hx hb dX9_laws_6 (by decide) (fun c3 => ?_) (fun c3 => ?_)
  · have h := ite_t c3 h
    refine lv_aload_n hx hb dX9_laws_11 rfl (lv_at hl 1 rfl) ?_
    obtain ⟨z4, hc5, h⟩ := bnd_some h
    refine gx_cV (σ' := (mkS σ [] [(3224, z1.2.1)] [] [(65, z1.2.2), (66, (σ.2.2.2 66))])) (r := (some (.int z4))) (rest := []) (As := []) hS9 (c_M_areHalves l g (mkS σ [] [(3224, z1.2.1)] [] [(65, z1.2.2), (66, (σ.2.2.2 66))]) z4 hc5) rfl (cwV 0 hts (gz_V mw_5_221 mw_5_223 ms_4_10 mw_1_11 mw_5_224) rfl rfl rfl hdV_X9_areHalves ⟨Nat.le_of_ble_eq_true rfl, Nat.le_of_ble_eq_true rfl⟩) hK hG (ga_50 g _) rfl rfl rfl hl.1 rfl (Nat.le_of_ble_eq_true rfl) dX9_laws_12 (fun H locs hG => ?_)
    refine W.eq (g2 := F0 m 15 ls [.int z4]) rfl ?_
    refine lv_if_ne (tgt := 22) hx hb dX9_laws_15 (by decide) (fun c6 => ?_) (fun c6 => ?_)
    · have h := ite_f c6 h
      refine lv_aload_n hx hb dX9_laws_22 rfl (lv_at hl 1 rfl) ?_
      obtain ⟨z7, hc8, h⟩ := bnd_some h
      refine gx_cV (σ' := (mkS σ [] [(3224, z1.2.1)] [] [(65, z1.2.2), (66, z7.2)])) (r := (some (.int z7.1))) (rest := []) (As := []) hS9 (c_M_findThirds l g (mkS σ [] [(3224, z1.2.1)] [] [(65, z1.2.2), (66, (σ.2.2.2 66))]) z7.1 z7.2 hc8) (mk_mk rfl rfl rfl rfl) (cwV 0 hts (gz_V mw_5_225 mw_5_227 ms_4_11 mw_1_11 mw_5_228) rfl rfl rfl hdV_X9_findThirds ⟨Nat.le_of_ble_eq_true rfl, Nat.le_of_ble_eq_true rfl⟩) hK hG (ga_50 g _) rfl rfl rfl hl.1 rfl (Nat.le_of_ble_eq_true rfl) dX9_laws_23 (fun H locs hG => ?_)
      refine W.eq (g2 := F0 m 26 ls [.int z7.1]) rfl ?_
      refine lv_if_ne (tgt := 34) hx hb dX9_laws_26 (by decide) (fun c9 => ?_) (fun c9 => ?_)
      · have h := ite_f c9 h
        refine lv_iconst (v := (0 : Int32)) hx hb dX9_laws_34 (by decide) ?_
        exact n35 (0 : Int32) z1.2.1 z1.2.2 z7.2 _ _ _ (lv_sub hl [] rfl) hG h
      · have h := ite_t c9 h
        refine lv_bipush (v := (6 : Int32)) hx hb dX9_laws_29 (by decide) ?_
        refine lv_goto (tgt := 35) hx hb dX9_laws_31 (by decide) ?_
        exact n35 (6 : Int32) z1.2.1 z1.2.2 z7.2 _ _ _ (lv_sub hl [] rfl) hG h
    · have h := ite_t c6 h
      refine lv_iconst (v := (5 : Int32)) hx hb dX9_laws_18 (by decide) ?_
      refine lv_goto (tgt := 35) hx hb dX9_laws_19 (by decide) ?_
      exact n35 (5 : Int32) z1.2.1 z1.2.2 (σ.2.2.2 66) _ _ _ (lv_sub hl [] rfl) hG h
  · have h := ite_f c3 h
    refine lv_iload_n hx hb dX9_laws_9 rfl (lv_at hl 0 rfl) ?_
    cases h
    exact gx_iret hx hb hr hlocks hG dX9_laws_10

set_option maxHeartbeats 4000000 in
set_option maxRecDepth 100000 in
theorem c_M_isRoot (l : Launch) (g : GC) (σ : St) (x1 : Int32) (r : Int32) (w_u : Nat → Int64) (h : M_isRoot x1 (σ.1 3208) (σ.2.2.1 56) (σ.2.2.1 57) (σ.2.2.2 67) = some (r, w_u)) : Cn l g yX9_isRoot (Cond.code yX9_isRoot cX9_isRoot 3 (some .boolean) :: wG) 1 21 [.ref (g.2.1 50), .int x1] σ (some (.int r)) (mkS σ [] [] [] [(67, w_u)]) := by
  unfold Cn
  refine Met.ofW (cc := cX9_isRoot) (maxL := 3) (ret := (some .boolean)) (by decide) rfl ?_
  intro p e s m args below meth c s₁ B hml hv
  obtain ⟨hargs, hP0, hK⟩ := hv
  have hx := B.exec
  have hb := B.bytes
  have hr := B.returns
  have hts : ∀ w ∈ wG, w.before args s = true := fun w h => atoms_spec (ws := (Cond.code yX9_isRoot cX9_isRoot 3 (some .boolean) :: wG)) B.pre w (List.mem_cons_of_mem _ h)
  have hown : s.vm.findClass RX9 = some m.cls := findClass_of_methodNamed B.named
  have hlocks := B.notSynchronized
  have hS9 : CallFix p m c cX9_isRoot 3 s args wG RX9 := ⟨hx, hb, hml, hown, hts⟩
  have hw0 := hts _ mw_4_149
  have hw1 := hts _ mw_4_147
  have hw2 := hts _ mw_4_148
  have hw3 := hts _ mw_4_165
  have hf9 : entryFrame m args 3 = _ := (congrArg (fun a => entryFrame m a 3) hargs).trans (lg_entry_eq m [.ref (g.2.1 50), .int x1] 3)
  show Wg p l e 1 21 s m args below meth c g (some (.int r)) (mkS σ [] [] [] [(67, w_u)]) s.heap [] (entryFrame m args 3)
  rw [hf9]
  have hl := lv_entry ([.ref (g.2.1 50), .int x1]) (n := 3) (Nat.le_of_ble_eq_true rfl)
  generalize (lg_sl ([.ref (g.2.1 50), .int x1]) ++ List.replicate (3 - (lg_sl ([.ref (g.2.1 50), .int x1])).length) Slot.unset).toArray = ls at hl ⊢
  have hl : lv_has ls 3 [(0, .ref (g.2.1 50)), (1, .int x1)] := hl
  have hG : GW g s σ s.heap [] := ⟨hP0, va_S.rf⟩
  have hG : GW g s (mkS σ [] [] [] [(67, (σ.2.2.2 67))]) s.heap [] := GW_self [] [] [] [67] hG
  unfold M_isRoot at h
  have n157 : ∀ (t0 : Int32) (v_u : Nat → Int64) (H : Heap) (locs : List Loc) (ls : Array Slot), lv_has ls 3 [] → GW g s (mkS σ [] [] [] [(67, v_u)]) H locs → M_isRoot_n157 t0 v_u = some (r, w_u) → Wg p l e 1 21 s m args below meth c g (some (.int r)) (mkS σ [] [] [] [(67, w_u)]) H locs (F0 m 157 ls [.int t0]) := by
    intro t0 v_u H locs ls hl hG h
    unfold M_isRoot_n157 at h
    obtain ⟨hg1, h⟩ := gd_some h
    cases h
    exact gx_zret hx hb hr hlocks hg1 hG dX9_isRoot_157
  have n81 : ∀ (x1 : Int32) (v_u : Nat → Int64) (H : Heap) (locs : List Loc) (ls : Array Slot), lv_has ls 3 [(0, .ref (g.2.1 50)), (1, .int x1)] → GW g s (mkS σ [] [] [] [(67, v_u)]) H locs → M_isRoot_n81 (σ.1 3208) (σ.2.2.1 56) (σ.2.2.1 57) x1 v_u = some (r, w_u) → Wg p l e 1 21 s m args below meth c g (some (.int r)) (mkS σ [] [] [] [(67, w_u)]) H locs (F0 m 81 ls []) := by
    intro x1 v_u H locs ls hl hG h
    unfold M_isRoot_n81 at h
    refine lv_aload_n hx hb dX9_isRoot_81 rfl (lv_at hl 0 rfl) ?_
    refine gx_get (v := .ref (g.2.1 57)) (C := RX9) (T := TX9) (N := 44) hx hb hts mc_X9 hown hK hG (ga_50 g _) rfl 10 (by decide) hw0 rfl rfl dX9_isRoot_82 ?_
    refine lv_aload_n hx hb dX9_isRoot_85 rfl (lv_at hl 0 rfl) ?_
    refine gx_get (v := .int (σ.1 3208)) (C := RX9) (T := TX9) (N := 44) hx hb hts mc_X9 hown hK hG (ga_50 g _) rfl 8 (by decide) hw1 rfl rfl dX9_isRoot_86 ?_
    obtain ⟨hg2, h⟩ := gd_some h
    refine gx_iald (f := (σ.2.2.1 57)) hx hb hK hG (ga_57 g _) hg2 dX9_isRoot_89 ?_
    refine lv_i2l hx hb dX9_isRoot_90 rfl ?_
    refine lv_aload_n hx hb dX9_isRoot_91 rfl (lv_at hl 0 rfl) ?_
    refine gx_get (v := .ref (g.2.1 56)) (C := RX9) (T := TX9) (N := 44) hx hb hts mc_X9 hown hK hG (ga_50 g _) rfl 9 (by decide) hw2 rfl rfl dX9_isRoot_92 ?_
    refine lv_aload_n hx hb dX9_isRoot_95 rfl (lv_at hl 0 rfl) ?_
    refine gx_get (v := .int (σ.1 3208)) (C := RX9) (T := TX9) (N := 44) hx hb hts mc_X9 hown hK hG (ga_50 g _) rfl 8 (by decide) hw1 rfl rfl dX9_isRoot_96 ?_
    refine lv_iconst (v := (1 : Int32)) hx hb dX9_isRoot_99 (by decide) ?_
    refine lv_isub hx hb dX9_isRoot_100 ?_
    obtain ⟨hg3, h⟩ := gd_some h
    refine gx_iald (f := (σ.2.2.1 56)) hx hb hK hG (ga_56 g _) hg3 dX9_isRoot_101 ?_
    refine lv_i2l hx hb dX9_isRoot_102 rfl ?_
    refine lv_lmul hx hb dX9_isRoot_103 ?_
    refine lv_aload_n hx hb dX9_isRoot_104 rfl (lv_at hl 0 rfl) ?_
    refine gx_get (v := .ref (g.2.1 67)) (C := RX9) (T := TX9) (N := 44) hx hb hts mc_X9 hown hK hG (ga_50 g _) rfl 26 (by decide) hw3 rfl rfl dX9_isRoot_105 ?_
    refine lv_aload_n hx hb dX9_isRoot_108 rfl (lv_at hl 0 rfl) ?_
    refine gx_get (v := .int (σ.1 3208)) (C := RX9) (T := TX9) (N := 44) hx hb hts mc_X9 hown hK hG (ga_50 g _) rfl 8 (by decide) hw1 rfl rfl dX9_isRoot_109 ?_
    refine lv_iconst (v := (1 : Int32)) hx hb dX9_isRoot_112 (by decide) ?_
    refine lv_isub hx hb dX9_isRoot_113 ?_
    refine gx_lald (f := v_u) hx hb hK hG (ga_67 g _) hg3 dX9_isRoot_114 ?_
    refine lv_lmul hx hb dX9_isRoot_115 ?_
    refine lv_aload_n hx hb dX9_isRoot_116 rfl (lv_at hl 0 rfl) ?_
    refine lv_aload_n hx hb dX9_isRoot_117 rfl (lv_at hl 0 rfl) ?_
    refine gx_get (v := .int (σ.1 3208)) (C := RX9) (T := TX9) (N := 44) hx hb hts mc_X9 hown hK hG (ga_50 g _) rfl 8 (by decide) hw1 rfl rfl dX9_isRoot_118 ?_
    obtain ⟨z4, hc5, h⟩ := bnd_some h
    refine gx_cV (σ' := (mkS σ [] [] [] [(67, v_u)])) (r := (some (.int z4))) (rest := [.long (((((σ.2.2.1 57) ((σ.1 3208).toNatClampNeg)).toInt64) * (((σ.2.2.1 56) (((σ.1 3208) - (1 : Int32)).toNatClampNeg)).toInt64)) * (v_u (((σ.1 3208) - (1 : Int32)).toNatClampNeg)))]) (As := [.int (σ.1 3208)]) hS9 (c_M_a l g (mkS σ [] [] [] [(67, v_u)]) (σ.1 3208) z4 hc5) rfl (cwV 1 hts (gz_V mw_5_216 mw_5_218 ms_4_9 mw_1_11 mw_5_219) rfl rfl rfl hdV_X9_a ⟨Nat.le_of_ble_eq_true rfl, Nat.le_of_ble_eq_true rfl⟩) hK hG (ga_50 g _) rfl rfl rfl hl.1 rfl (Nat.le_of_ble_eq_true rfl) dX9_isRoot_121 (fun H locs hG => ?_)
    refine W.eq (g2 := F0 m 124 ls [.int z4, .long (((((σ.2.2.1 57) ((σ.1 3208).toNatClampNeg)).toInt64) * (((σ.2.2.1 56) (((σ.1 3208) - (1 : Int32)).toNatClampNeg)).toInt64)) * (v_u (((σ.1 3208) - (1 : Int32)).toNatClampNeg)))]) rfl ?_
    refine lv_i2l hx hb dX9_isRoot_124 rfl ?_
    refine lv_aload_n hx hb dX9_isRoot_125 rfl (lv_at hl 0 rfl) ?_
    refine gx_get (v := .ref (g.2.1 67)) (C := RX9) (T := TX9) (N := 44) hx hb hts mc_X9 hown hK hG (ga_50 g _) rfl 26 (by decide) hw3 rfl rfl dX9_isRoot_126 ?_
    refine lv_aload_n hx hb dX9_isRoot_129 rfl (lv_at hl 0 rfl) ?_
    refine gx_get (v := .int (σ.1 3208)) (C := RX9) (T := TX9) (N := 44) hx hb hts mc_X9 hown hK hG (ga_50 g _) rfl 8 (by decide) hw1 rfl rfl dX9_isRoot_130 ?_
    refine gx_lald (f := v_u) hx hb hK hG (ga_67 g _) hg2 dX9_isRoot_133 ?_
    refine lv_lmul hx hb dX9_isRoot_134 ?_
    refine lv_ladd hx hb dX9_isRoot_135 ?_
    refine lv_iload_n hx hb dX9_isRoot_136 rfl (lv_at hl 1 rfl) ?_
    refine lv_i2l hx hb dX9_isRoot_137 rfl ?_
    refine lv_aload_n hx hb dX9_isRoot_138 rfl (lv_at hl 0 rfl) ?_
    refine gx_get (v := .ref (g.2.1 67)) (C := RX9) (T := TX9) (N := 44) hx hb hts mc_X9 hown hK hG (ga_50 g _) rfl 26 (by decide) hw3 rfl rfl dX9_isRoot_139 ?_
    refine lv_aload_n hx hb dX9_isRoot_142 rfl (lv_at hl 0 rfl) ?_
    refine gx_get (v := .int (σ.1 3208)) (C := RX9) (T := TX9) (N := 44) hx hb hts mc_X9 hown hK hG (ga_50 g _) rfl 8 (by decide) hw1 rfl rfl dX9_isRoot_143 ?_
    refine gx_lald (f := v_u) hx hb hK hG (ga_67 g _) hg2 dX9_isRoot_146 ?_
    refine lv_lmul hx hb dX9_isRoot_147 ?_
    refine W.lcmp hx hb dX9_isRoot_148 ?_
    refine lv_if_ne (tgt := 156) hx hb dX9_isRoot_149 (by decide) (fun c6 => ?_) (fun c6 => ?_)
    · have h := ite_f c6 h
      refine lv_iconst (v := (0 : Int32)) hx hb dX9_isRoot_156 (by decide) ?_
      exact n157 (0 : Int32) v_u _ _ _ (lv_sub hl [] rfl) hG h
    · have h := ite_t c6 h
      refine lv_iconst (v := (1 : Int32)) hx hb dX9_isRoot_152 (by decide) ?_
      refine lv_goto (tgt := 157) hx hb dX9_isRoot_153 (by decide) ?_
      exact n157 (1 : Int32) v_u _ _ _ (lv_sub hl [] rfl) hG h
  have n17 : ∀ (k17 : Int32 → Int32 → (Nat → Int64) → Option (Int32 × (Nat → Int64))) (hk17 : ∀ (x1 : Int32) (x2 : Int32) (v_u : Nat → Int64) (H : Heap) (locs : List Loc) (ls : Array Slot), lv_has ls 3 [(0, .ref (g.2.1 50)), (1, .int x1), (2, .int x2)] → GW g s (mkS σ [] [] [] [(67, v_u)]) H locs → k17 x1 x2 v_u = some (r, w_u) → Wg p l e 1 21 s m args below meth c g (some (.int r)) (mkS σ [] [] [] [(67, w_u)]) H locs (F0 m 17 ls [])) (x1 : Int32) (x2 : Int32) (v_u : Nat → Int64) (H : Heap) (locs : List Loc) (ls : Array Slot), lv_has ls 3 [(0, .ref (g.2.1 50)), (1, .int x1), (2, .int x2)] → GW g s (mkS σ [] [] [] [(67, v_u)]) H locs → M_isRoot_n17 k17 (σ.1 3208) (σ.2.2.1 56) (σ.2.2.1 57) x1 x2 v_u = some (r, w_u) → Wg p l e 1 21 s m args below meth c g (some (.int r)) (mkS σ [] [] [] [(67, w_u)]) H locs (F0 m 17 ls []) := by
    intro k17 hk17 x1 x2 v_u H locs ls hl hG h
    unfold M_isRoot_n17 at h
    refine lv_iload_n hx hb dX9_isRoot_17 rfl (lv_at hl 2 rfl) ?_
    refine lv_aload_n hx hb dX9_isRoot_18 rfl (lv_at hl 0 rfl) ?_
    refine gx_get (v := .int (σ.1 3208)) (C := RX9) (T := TX9) (N := 44) hx hb hts mc_X9 hown hK hG (ga_50 g _) rfl 8 (by decide) hw1 rfl rfl dX9_isRoot_19 ?_
    refine lv_icmp_ge (tgt := 81) hx hb dX9_isRoot_22 (by decide) (fun c7 => ?_) (fun c7 => ?_)
    · have h := ite_t c7 h
      exact n81 x1 v_u _ _ _ (lv_sub hl [0, 1] rfl) hG h
    · have h := ite_f c7 h
      refine lv_aload_n hx hb dX9_isRoot_25 rfl (lv_at hl 0 rfl) ?_
      refine gx_get (v := .ref (g.2.1 67)) (C := RX9) (T := TX9) (N := 44) hx hb hts mc_X9 hown hK hG (ga_50 g _) rfl 26 (by decide) hw3 rfl rfl dX9_isRoot_26 ?_
      refine lv_iload_n hx hb dX9_isRoot_29 rfl (lv_at hl 2 rfl) ?_
      refine lv_iconst (v := (1 : Int32)) hx hb dX9_isRoot_30 (by decide) ?_
      refine lv_iadd hx hb dX9_isRoot_31 ?_
      refine lv_iload_n hx hb dX9_isRoot_32 rfl (lv_at hl 1 rfl) ?_
      refine lv_aload_n hx hb dX9_isRoot_33 rfl (lv_at hl 0 rfl) ?_
      refine lv_iload_n hx hb dX9_isRoot_34 rfl (lv_at hl 2 rfl) ?_
      obtain ⟨z8, hc9, h⟩ := bnd_some h
      refine gx_cV (σ' := (mkS σ [] [] [] [(67, v_u)])) (r := (some (.int z8))) (rest := [.int x1, .int (x2 + (1 : Int32)), .ref (g.2.1 67)]) (As := [.int x2]) hS9 (c_M_a l g (mkS σ [] [] [] [(67, v_u)]) x2 z8 hc9) rfl (cwV 1 hts (gz_V mw_5_216 mw_5_218 ms_4_9 mw_1_11 mw_5_219) rfl rfl rfl hdV_X9_a ⟨Nat.le_of_ble_eq_true rfl, Nat.le_of_ble_eq_true rfl⟩) hK hG (ga_50 g _) rfl rfl rfl hl.1 rfl (Nat.le_of_ble_eq_true rfl) dX9_isRoot_35 (fun H locs hG => ?_)
      refine W.eq (g2 := F0 m 38 ls [.int z8, .int x1, .int (x2 + (1 : Int32)), .ref (g.2.1 67)]) rfl ?_
      refine lv_isub hx hb dX9_isRoot_38 ?_
      refine lv_i2l hx hb dX9_isRoot_39 rfl ?_
      refine lv_aload_n hx hb dX9_isRoot_40 rfl (lv_at hl 0 rfl) ?_
      refine gx_get (v := .ref (g.2.1 67)) (C := RX9) (T := TX9) (N := 44) hx hb hts mc_X9 hown hK hG (ga_50 g _) rfl 26 (by decide) hw3 rfl rfl dX9_isRoot_41 ?_
      refine lv_iload_n hx hb dX9_isRoot_44 rfl (lv_at hl 2 rfl) ?_
      obtain ⟨hg10, h⟩ := gd_some h
      refine gx_lald (f := v_u) hx hb hK hG (ga_67 g _) hg10 dX9_isRoot_45 ?_
      refine lv_lmul hx hb dX9_isRoot_46 ?_
      refine lv_aload_n hx hb dX9_isRoot_47 rfl (lv_at hl 0 rfl) ?_
      refine gx_get (v := .ref (g.2.1 57)) (C := RX9) (T := TX9) (N := 44) hx hb hts mc_X9 hown hK hG (ga_50 g _) rfl 10 (by decide) hw0 rfl rfl dX9_isRoot_48 ?_
      refine lv_iload_n hx hb dX9_isRoot_51 rfl (lv_at hl 2 rfl) ?_
      refine gx_iald (f := (σ.2.2.1 57)) hx hb hK hG (ga_57 g _) hg10 dX9_isRoot_52 ?_
      refine lv_i2l hx hb dX9_isRoot_53 rfl ?_
      refine lv_aload_n hx hb dX9_isRoot_54 rfl (lv_at hl 0 rfl) ?_
      refine gx_get (v := .ref (g.2.1 56)) (C := RX9) (T := TX9) (N := 44) hx hb hts mc_X9 hown hK hG (ga_50 g _) rfl 9 (by decide) hw2 rfl rfl dX9_isRoot_55 ?_
      refine lv_iload_n hx hb dX9_isRoot_58 rfl (lv_at hl 2 rfl) ?_
      refine lv_iconst (v := (1 : Int32)) hx hb dX9_isRoot_59 (by decide) ?_
      refine lv_isub hx hb dX9_isRoot_60 ?_
      obtain ⟨hg11, h⟩ := gd_some h
      refine gx_iald (f := (σ.2.2.1 56)) hx hb hK hG (ga_56 g _) hg11 dX9_isRoot_61 ?_
      refine lv_i2l hx hb dX9_isRoot_62 rfl ?_
      refine lv_lmul hx hb dX9_isRoot_63 ?_
      refine lv_aload_n hx hb dX9_isRoot_64 rfl (lv_at hl 0 rfl) ?_
      refine gx_get (v := .ref (g.2.1 67)) (C := RX9) (T := TX9) (N := 44) hx hb hts mc_X9 hown hK hG (ga_50 g _) rfl 26 (by decide) hw3 rfl rfl dX9_isRoot_65 ?_
      refine lv_iload_n hx hb dX9_isRoot_68 rfl (lv_at hl 2 rfl) ?_
      refine lv_iconst (v := (1 : Int32)) hx hb dX9_isRoot_69 (by decide) ?_
      refine lv_isub hx hb dX9_isRoot_70 ?_
      refine gx_lald (f := v_u) hx hb hK hG (ga_67 g _) hg11 dX9_isRoot_71 ?_
      refine lv_lmul hx hb dX9_isRoot_72 ?_
      refine lv_lsub hx hb dX9_isRoot_73 ?_
      refine lv_topl (fun y12 ey12 => ?_)
      have h := lt_at h ey12
      obtain ⟨hg13, h⟩ := gd_some h
      refine gx_last (σ' := (mkS σ [] [] [] [(67, (vp_updL v_u ((x2 + (1 : Int32)).toNatClampNeg) y12))])) (f := v_u) hx hb hK hG (ga_67 g _) hg13 ((gs_67 g _ _).trans (congrArg (g_cells g) (mk_d 0 rfl rfl))) dX9_isRoot_74 (fun H locs hG => ?_)
      refine lv_iinc (v := (x2 + (1 : Int32))) (lv' := [(2, .int (x2 + (1 : Int32))), (0, .ref (g.2.1 50)), (1, .int x1)]) hx hb dX9_isRoot_75 hl (k := 2) rfl (congrArg (fun z => x2 + z) (by decide)) (Nat.le_of_ble_eq_true rfl) rfl (fun ls hl => ?_)
      refine lv_goto (tgt := 17) hx hb dX9_isRoot_78 (by decide) ?_
      exact hk17 x1 (x2 + (1 : Int32)) (vp_updL v_u ((x2 + (1 : Int32)).toNatClampNeg) y12) _ _ _ (lv_sub hl [1, 2, 0] rfl) hG h
  have l17 : ∀  (F : Nat) (x1 : Int32) (x2 : Int32) (v_u : Nat → Int64) (H : Heap) (locs : List Loc) (ls : Array Slot), lv_has ls 3 [(0, .ref (g.2.1 50)), (1, .int x1), (2, .int x2)] → GW g s (mkS σ [] [] [] [(67, v_u)]) H locs → M_isRoot_l17 (σ.1 3208) (σ.2.2.1 56) (σ.2.2.1 57) F x1 x2 v_u = some (r, w_u) → Wg p l e 1 21 s m args below meth c g (some (.int r)) (mkS σ [] [] [] [(67, w_u)]) H locs (F0 m 17 ls []) := by
    intro F
    induction F with
    | zero => intro x1 x2 v_u H locs ls hl hG h; exact no_some h
    | succ F ih => intro x1 x2 v_u H locs ls hl hG h; exact n17 (fun x1 x2 v_u => M_isRoot_l17 (σ.1 3208) (σ.2.2.1 56) (σ.2.2.1 57) F x1 x2 v_u) ih x1 x2 v_u H locs ls hl hG h
  refine lv_aload_n hx hb dX9_isRoot_0 rfl (lv_at hl 0 rfl) ?_
  refine gx_get (v := .ref (g.2.1 67)) (C := RX9) (T := TX9) (N := 44) hx hb hts mc_X9 hown hK hG (ga_50 g _) rfl 26 (by decide) hw3 rfl rfl dX9_isRoot_1 ?_
  refine lv_iconst (v := (0 : Int32)) hx hb dX9_isRoot_4 (by decide) ?_
  refine lv_lconst (v := (1 : Int64)) hx hb dX9_isRoot_5 (by decide) ?_
  refine gx_last (σ' := (mkS σ [] [] [] [(67, (vp_updL (σ.2.2.2 67) ((0 : Int32).toNatClampNeg) (1 : Int64)))])) (f := (σ.2.2.2 67)) hx hb hK hG (ga_67 g _) (by decide) ((gs_67 g _ _).trans (congrArg (g_cells g) (mk_d 0 rfl rfl))) dX9_isRoot_6 (fun H locs hG => ?_)
  refine lv_aload_n hx hb dX9_isRoot_7 rfl (lv_at hl 0 rfl) ?_
  refine gx_get (v := .ref (g.2.1 67)) (C := RX9) (T := TX9) (N := 44) hx hb hts mc_X9 hown hK hG (ga_50 g _) rfl 26 (by decide) hw3 rfl rfl dX9_isRoot_8 ?_
  refine lv_iconst (v := (1 : Int32)) hx hb dX9_isRoot_11 (by decide) ?_
  refine lv_iload_n hx hb dX9_isRoot_12 rfl (lv_at hl 1 rfl) ?_
  refine lv_i2l hx hb dX9_isRoot_13 rfl ?_
  refine gx_last (σ' := (mkS σ [] [] [] [(67, (vp_updL (vp_updL (σ.2.2.2 67) ((0 : Int32).toNatClampNeg) (1 : Int64)) ((1 : Int32).toNatClampNeg) (x1.toInt64)))])) (f := (vp_updL (σ.2.2.2 67) ((0 : Int32).toNatClampNeg) (1 : Int64))) hx hb hK hG (ga_67 g _) (by decide) ((gs_67 g _ _).trans (congrArg (g_cells g) (mk_d 0 rfl rfl))) dX9_isRoot_14 (fun H locs hG => ?_)
  refine lv_iconst (v := (1 : Int32)) hx hb dX9_isRoot_15 (by decide) ?_
  refine lv_istore_n (lv' := [(2, .int (1 : Int32)), (0, .ref (g.2.1 50)), (1, .int x1)]) hx hb dX9_isRoot_16 rfl hl (Nat.le_of_ble_eq_true rfl) rfl (fun ls hl => ?_)
  exact l17 FUEL x1 (1 : Int32) (vp_updL (vp_updL (σ.2.2.2 67) ((0 : Int32).toNatClampNeg) (1 : Int64)) ((1 : Int32).toNatClampNeg) (x1.toInt64)) _ _ _ (lv_sub hl [1, 2, 0] rfl) hG h

set_option maxHeartbeats 4000000 in
set_option maxRecDepth 100000 in
theorem c_M_times (l : Launch) (g : GC) (σ : St) (r : Int32) (h : M_times (σ.1 3208) (σ.2.1 3224) (σ.2.2.1 56) (σ.2.2.2 65) (σ.2.2.2 67) = some r) : Cn l g yX9_times (Cond.code yX9_times cX9_times 8 (some .int) :: wG) 0 0 [.ref (g.2.1 50)] σ (some (.int r)) σ := by
  unfold Cn
  refine Met.ofW (cc := cX9_times) (maxL := 8) (ret := (some .int)) (by decide) rfl ?_
  intro p e s m args below meth c s₁ B hml hv
  obtain ⟨hargs, hP0, hK⟩ := hv
  have hx := B.exec
  have hb := B.bytes
  have hr := B.returns
  have hts : ∀ w ∈ wG, w.before args s = true := fun w h => atoms_spec (ws := (Cond.code yX9_times cX9_times 8 (some .int) :: wG)) B.pre w (List.mem_cons_of_mem _ h)
  have hown : s.vm.findClass RX9 = some m.cls := findClass_of_methodNamed B.named
  have hlocks := B.notSynchronized
  have hw0 := hts _ mw_4_163
  have hw1 := hts _ mw_4_165
  have hw2 := hts _ mw_4_162
  have hw3 := hts _ mw_4_148
  have hw4 := hts _ mw_4_147
  have hf9 : entryFrame m args 8 = _ := (congrArg (fun a => entryFrame m a 8) hargs).trans (lg_entry_eq m [.ref (g.2.1 50)] 8)
  show Wg p l e 0 0 s m args below meth c g (some (.int r)) σ s.heap [] (entryFrame m args 8)
  rw [hf9]
  have hl := lv_entry ([.ref (g.2.1 50)]) (n := 8) (Nat.le_of_ble_eq_true rfl)
  generalize (lg_sl ([.ref (g.2.1 50)]) ++ List.replicate (8 - (lg_sl ([.ref (g.2.1 50)])).length) Slot.unset).toArray = ls at hl ⊢
  have hl : lv_has ls 8 [(0, .ref (g.2.1 50))] := hl
  have hG : GW g s σ s.heap [] := ⟨hP0, va_S.rf⟩
  unfold M_times at h
  have n63 : ∀ (k10 : Int64 → Int64 → Int32 → Option (Int32)) (hk10 : ∀ (x1 : Int64) (x3 : Int64) (x5 : Int32) (H : Heap) (locs : List Loc) (ls : Array Slot), lv_has ls 8 [(0, .ref (g.2.1 50)), (1, .long x1), (3, .long x3), (5, .int x5)] → GW g s σ H locs → k10 x1 x3 x5 = some r → Wg p l e 0 0 s m args below meth c g (some (.int r)) σ H locs (F0 m 10 ls [])) (x1 : Int64) (x5 : Int32) (t0 : Int64) (H : Heap) (locs : List Loc) (ls : Array Slot), lv_has ls 8 [(0, .ref (g.2.1 50)), (1, .long x1), (5, .int x5)] → GW g s σ H locs → M_times_n63 k10 x1 x5 t0 = some r → Wg p l e 0 0 s m args below meth c g (some (.int r)) σ H locs (F0 m 63 ls [.long t0]) := by
    intro k10 hk10 x1 x5 t0 H locs ls hl hG h
    unfold M_times_n63 at h
    refine lv_lstore_n (lv' := [(3, .long t0), (0, .ref (g.2.1 50)), (1, .long x1), (5, .int x5)]) hx hb dX9_times_63 rfl hl (Nat.le_of_ble_eq_true rfl) rfl (fun ls hl => ?_)
    refine lv_iinc (v := (x5 + (-1 : Int32))) (lv' := [(5, .int (x5 + (-1 : Int32))), (3, .long t0), (0, .ref (g.2.1 50)), (1, .long x1)]) hx hb dX9_times_64 hl (k := 3) rfl (congrArg (fun z => x5 + z) (by decide)) (Nat.le_of_ble_eq_true rfl) rfl (fun ls hl => ?_)
    refine lv_goto (tgt := 10) hx hb dX9_times_67 (by decide) ?_
    exact hk10 x1 t0 (x5 + (-1 : Int32)) _ _ _ (lv_sub hl [2, 3, 1, 0] rfl) hG h
  have n98 : ∀ (t0 : Int32) (H : Heap) (locs : List Loc) (ls : Array Slot), lv_has ls 8 [] → GW g s σ H locs → M_times_n98 t0 = some r → Wg p l e 0 0 s m args below meth c g (some (.int r)) σ H locs (F0 m 98 ls [.int t0]) := by
    intro t0 H locs ls hl hG h
    unfold M_times_n98 at h
    cases h
    exact gx_iret hx hb hr hlocks hG dX9_times_98
  have n70 : ∀ (x1 : Int64) (x3 : Int64) (H : Heap) (locs : List Loc) (ls : Array Slot), lv_has ls 8 [(0, .ref (g.2.1 50)), (1, .long x1), (3, .long x3)] → GW g s σ H locs → M_times_n70 (σ.2.1 3224) x1 x3 = some r → Wg p l e 0 0 s m args below meth c g (some (.int r)) σ H locs (F0 m 70 ls []) := by
    intro x1 x3 H locs ls hl hG h
    unfold M_times_n70 at h
    refine lv_aload_n hx hb dX9_times_70 rfl (lv_at hl 0 rfl) ?_
    refine gx_get (v := .long (σ.2.1 3224)) (C := RX9) (T := TX9) (N := 44) hx hb hts mc_X9 hown hK hG (ga_50 g _) rfl 24 (by decide) hw0 rfl rfl dX9_times_71 ?_
    refine lv_lload_n hx hb dX9_times_74 rfl (lv_at hl 2 rfl) ?_
    refine lv_lmul hx hb dX9_times_75 ?_
    refine lv_lload_n hx hb dX9_times_76 rfl (lv_at hl 2 rfl) ?_
    refine lv_lmul hx hb dX9_times_77 ?_
    refine lv_lstore (lv' := [(5, .long (((σ.2.1 3224) * x3) * x3)), (0, .ref (g.2.1 50)), (1, .long x1), (3, .long x3)]) hx hb dX9_times_78 hl (Nat.le_of_ble_eq_true rfl) rfl (fun ls hl => ?_)
    refine lv_lload hx hb dX9_times_80 (lv_at hl 0 rfl) ?_
    refine lv_lload_n hx hb dX9_times_82 rfl (lv_at hl 2 rfl) ?_
    obtain ⟨hg1, h⟩ := gd_some h
    refine lv_lrem hx hb dX9_times_83 (nzL_ne hg1) ?_
    refine lv_lconst (v := (0 : Int64)) hx hb dX9_times_84 (by decide) ?_
    refine W.lcmp hx hb dX9_times_85 ?_
    refine lv_if_ne (tgt := 97) hx hb dX9_times_86 (by decide) (fun c2 => ?_) (fun c2 => ?_)
    · have h := ite_f c2 h
      refine lv_iconst (v := (-1 : Int32)) hx hb dX9_times_97 (by decide) ?_
      exact n98 (-1 : Int32) _ _ _ (lv_sub hl [] rfl) hG h
    · have h := ite_t c2 h
      refine lv_lload hx hb dX9_times_89 (lv_at hl 0 rfl) ?_
      refine lv_lload_n hx hb dX9_times_91 rfl (lv_at hl 2 rfl) ?_
      refine lv_ldiv hx hb dX9_times_92 (nzL_ne hg1) ?_
      refine lv_l2i hx hb dX9_times_93 rfl ?_
      refine lv_goto (tgt := 98) hx hb dX9_times_94 (by decide) ?_
      exact n98 (((((σ.2.1 3224) * x3) * x3) / x1).toInt32) _ _ _ (lv_sub hl [] rfl) hG h
  have n10 : ∀ (k10 : Int64 → Int64 → Int32 → Option (Int32)) (hk10 : ∀ (x1 : Int64) (x3 : Int64) (x5 : Int32) (H : Heap) (locs : List Loc) (ls : Array Slot), lv_has ls 8 [(0, .ref (g.2.1 50)), (1, .long x1), (3, .long x3), (5, .int x5)] → GW g s σ H locs → k10 x1 x3 x5 = some r → Wg p l e 0 0 s m args below meth c g (some (.int r)) σ H locs (F0 m 10 ls [])) (x1 : Int64) (x3 : Int64) (x5 : Int32) (H : Heap) (locs : List Loc) (ls : Array Slot), lv_has ls 8 [(0, .ref (g.2.1 50)), (1, .long x1), (3, .long x3), (5, .int x5)] → GW g s σ H locs → M_times_n10 k10 (σ.2.1 3224) (σ.2.2.1 56) (σ.2.2.2 65) (σ.2.2.2 67) x1 x3 x5 = some r → Wg p l e 0 0 s m args below meth c g (some (.int r)) σ H locs (F0 m 10 ls []) := by
    intro k10 hk10 x1 x3 x5 H locs ls hl hG h
    unfold M_times_n10 at h
    refine lv_iload hx hb dX9_times_10 (lv_at hl 3 rfl) ?_
    refine lv_if_lt (tgt := 70) hx hb dX9_times_12 (by decide) (fun c3 => ?_) (fun c3 => ?_)
    · have h := ite_t c3 h
      exact n70 x1 x3 _ _ _ (lv_sub hl [0, 1, 2] rfl) hG h
    · have h := ite_f c3 h
      refine lv_aload_n hx hb dX9_times_15 rfl (lv_at hl 0 rfl) ?_
      refine gx_get (v := .ref (g.2.1 67)) (C := RX9) (T := TX9) (N := 44) hx hb hts mc_X9 hown hK hG (ga_50 g _) rfl 26 (by decide) hw1 rfl rfl dX9_times_16 ?_
      refine lv_iload hx hb dX9_times_19 (lv_at hl 3 rfl) ?_
      obtain ⟨hg4, h⟩ := gd_some h
      refine gx_lald (f := (σ.2.2.2 67)) hx hb hK hG (ga_67 g _) hg4 dX9_times_21 ?_
      refine lv_lload_n hx hb dX9_times_22 rfl (lv_at hl 2 rfl) ?_
      refine lv_lmul hx hb dX9_times_23 ?_
      refine lv_lstore (lv' := [(6, .long (((σ.2.2.2 67) (x5.toNatClampNeg)) * x3)), (0, .ref (g.2.1 50)), (1, .long x1), (3, .long x3), (5, .int x5)]) hx hb dX9_times_24 hl (Nat.le_of_ble_eq_true rfl) rfl (fun ls hl => ?_)
      refine lv_lload_n hx hb dX9_times_26 rfl (lv_at hl 2 rfl) ?_
      refine lv_aload_n hx hb dX9_times_27 rfl (lv_at hl 1 rfl) ?_
      refine gx_get (v := .ref (g.2.1 65)) (C := RX9) (T := TX9) (N := 44) hx hb hts mc_X9 hown hK hG (ga_50 g _) rfl 23 (by decide) hw2 rfl rfl dX9_times_28 ?_
      refine lv_iload hx hb dX9_times_31 (lv_at hl 4 rfl) ?_
      refine gx_lald (f := (σ.2.2.2 65)) hx hb hK hG (ga_65 g _) hg4 dX9_times_33 ?_
      refine lv_lload hx hb dX9_times_34 (lv_at hl 0 rfl) ?_
      refine lv_lmul hx hb dX9_times_36 ?_
      refine lv_lload hx hb dX9_times_37 (lv_at hl 0 rfl) ?_
      refine lv_lmul hx hb dX9_times_39 ?_
      refine lv_ladd hx hb dX9_times_40 ?_
      refine lv_topl (fun y5 ey5 => ?_)
      have h := lt_at h ey5
      refine lv_lstore_n (lv' := [(1, .long y5), (6, .long (((σ.2.2.2 67) (x5.toNatClampNeg)) * x3)), (0, .ref (g.2.1 50)), (3, .long x3), (5, .int x5)]) hx hb dX9_times_41 rfl hl (Nat.le_of_ble_eq_true rfl) rfl (fun ls hl => ?_)
      refine lv_iload hx hb dX9_times_42 (lv_at hl 4 rfl) ?_
      refine lv_if_le (tgt := 62) hx hb dX9_times_44 (by decide) (fun c6 => ?_) (fun c6 => ?_)
      · have h := ite_t c6 h
        refine lv_lload_n hx hb dX9_times_62 rfl (lv_at hl 3 rfl) ?_
        exact n63 k10 hk10 y5 x5 x3 _ _ _ (lv_sub hl [2, 0, 4] rfl) hG h
      · have h := ite_f c6 h
        refine lv_lload_n hx hb dX9_times_47 rfl (lv_at hl 3 rfl) ?_
        refine lv_aload_n hx hb dX9_times_48 rfl (lv_at hl 2 rfl) ?_
        refine gx_get (v := .ref (g.2.1 56)) (C := RX9) (T := TX9) (N := 44) hx hb hts mc_X9 hown hK hG (ga_50 g _) rfl 9 (by decide) hw3 rfl rfl dX9_times_49 ?_
        refine lv_iload hx hb dX9_times_52 (lv_at hl 4 rfl) ?_
        refine lv_iconst (v := (1 : Int32)) hx hb dX9_times_54 (by decide) ?_
        refine lv_isub hx hb dX9_times_55 ?_
        obtain ⟨hg7, h⟩ := gd_some h
        refine gx_iald (f := (σ.2.2.1 56)) hx hb hK hG (ga_56 g _) hg7 dX9_times_56 ?_
        refine lv_i2l hx hb dX9_times_57 rfl ?_
        refine lv_lmul hx hb dX9_times_58 ?_
        refine lv_goto (tgt := 63) hx hb dX9_times_59 (by decide) ?_
        exact n63 k10 hk10 y5 x5 (x3 * (((σ.2.2.1 56) ((x5 - (1 : Int32)).toNatClampNeg)).toInt64)) _ _ _ (lv_sub hl [2, 0, 4] rfl) hG h
  have l10 : ∀  (F : Nat) (x1 : Int64) (x3 : Int64) (x5 : Int32) (H : Heap) (locs : List Loc) (ls : Array Slot), lv_has ls 8 [(0, .ref (g.2.1 50)), (1, .long x1), (3, .long x3), (5, .int x5)] → GW g s σ H locs → M_times_l10 (σ.2.1 3224) (σ.2.2.1 56) (σ.2.2.2 65) (σ.2.2.2 67) F x1 x3 x5 = some r → Wg p l e 0 0 s m args below meth c g (some (.int r)) σ H locs (F0 m 10 ls []) := by
    intro F
    induction F with
    | zero => intro x1 x3 x5 H locs ls hl hG h; exact no_some h
    | succ F ih => intro x1 x3 x5 H locs ls hl hG h; exact n10 (fun x1 x3 x5 => M_times_l10 (σ.2.1 3224) (σ.2.2.1 56) (σ.2.2.2 65) (σ.2.2.2 67) F x1 x3 x5) ih x1 x3 x5 H locs ls hl hG h
  refine lv_lconst (v := (0 : Int64)) hx hb dX9_times_0 (by decide) ?_
  refine lv_lstore_n (lv' := [(1, .long (0 : Int64)), (0, .ref (g.2.1 50))]) hx hb dX9_times_1 rfl hl (Nat.le_of_ble_eq_true rfl) rfl (fun ls hl => ?_)
  refine lv_lconst (v := (1 : Int64)) hx hb dX9_times_2 (by decide) ?_
  refine lv_lstore_n (lv' := [(3, .long (1 : Int64)), (1, .long (0 : Int64)), (0, .ref (g.2.1 50))]) hx hb dX9_times_3 rfl hl (Nat.le_of_ble_eq_true rfl) rfl (fun ls hl => ?_)
  refine lv_aload_n hx hb dX9_times_4 rfl (lv_at hl 2 rfl) ?_
  refine gx_get (v := .int (σ.1 3208)) (C := RX9) (T := TX9) (N := 44) hx hb hts mc_X9 hown hK hG (ga_50 g _) rfl 8 (by decide) hw4 rfl rfl dX9_times_5 ?_
  refine lv_istore (lv' := [(5, .int (σ.1 3208)), (3, .long (1 : Int64)), (1, .long (0 : Int64)), (0, .ref (g.2.1 50))]) hx hb dX9_times_8 hl (Nat.le_of_ble_eq_true rfl) rfl (fun ls hl => ?_)
  exact l10 FUEL (0 : Int64) (1 : Int64) (σ.1 3208) _ _ _ (lv_sub hl [3, 2, 1, 0] rfl) hG h

set_option maxHeartbeats 4000000 in
set_option maxRecDepth 100000 in
theorem c_M_areTimesWhole (l : Launch) (g : GC) (σ : St) (r : Int32) (w_u : Nat → Int64) (h : M_areTimesWhole (σ.1 3208) (σ.2.1 3224) (σ.2.2.1 56) (σ.2.2.1 57) (σ.2.2.2 65) (σ.2.2.2 67) = some (r, w_u)) : Cn l g yX9_areTimesWhole (Cond.code yX9_areTimesWhole cX9_areTimesWhole 3 (some .boolean) :: wG) 2 43 [.ref (g.2.1 50)] σ (some (.int r)) (mkS σ [] [] [] [(67, w_u)]) := by
  unfold Cn
  refine Met.ofW (cc := cX9_areTimesWhole) (maxL := 3) (ret := (some .boolean)) (by decide) rfl ?_
  intro p e s m args below meth c s₁ B hml hv
  obtain ⟨hargs, hP0, hK⟩ := hv
  have hx := B.exec
  have hb := B.bytes
  have hr := B.returns
  have hts : ∀ w ∈ wG, w.before args s = true := fun w h => atoms_spec (ws := (Cond.code yX9_areTimesWhole cX9_areTimesWhole 3 (some .boolean) :: wG)) B.pre w (List.mem_cons_of_mem _ h)
  have hown : s.vm.findClass RX9 = some m.cls := findClass_of_methodNamed B.named
  have hlocks := B.notSynchronized
  have hS9 : CallFix p m c cX9_areTimesWhole 3 s args wG RX9 := ⟨hx, hb, hml, hown, hts⟩
  have hw0 := hts _ mw_4_148
  have hf9 : entryFrame m args 3 = _ := (congrArg (fun a => entryFrame m a 3) hargs).trans (lg_entry_eq m [.ref (g.2.1 50)] 3)
  show Wg p l e 2 43 s m args below meth c g (some (.int r)) (mkS σ [] [] [] [(67, w_u)]) s.heap [] (entryFrame m args 3)
  rw [hf9]
  have hl := lv_entry ([.ref (g.2.1 50)]) (n := 3) (Nat.le_of_ble_eq_true rfl)
  generalize (lg_sl ([.ref (g.2.1 50)]) ++ List.replicate (3 - (lg_sl ([.ref (g.2.1 50)])).length) Slot.unset).toArray = ls at hl ⊢
  have hl : lv_has ls 3 [(0, .ref (g.2.1 50))] := hl
  have hG : GW g s σ s.heap [] := ⟨hP0, va_S.rf⟩
  have hG : GW g s (mkS σ [] [] [] [(67, (σ.2.2.2 67))]) s.heap [] := GW_self [] [] [] [67] hG
  unfold M_areTimesWhole at h
  have n44 : ∀ (k9 : Int32 → Int32 → (Nat → Int64) → Option (Int32 × (Nat → Int64))) (hk9 : ∀ (x1 : Int32) (x2 : Int32) (v_u : Nat → Int64) (H : Heap) (locs : List Loc) (ls : Array Slot), lv_has ls 3 [(0, .ref (g.2.1 50)), (1, .int x1), (2, .int x2)] → GW g s (mkS σ [] [] [] [(67, v_u)]) H locs → k9 x1 x2 v_u = some (r, w_u) → Wg p l e 2 43 s m args below meth c g (some (.int r)) (mkS σ [] [] [] [(67, w_u)]) H locs (F0 m 9 ls [])) (x2 : Int32) (t0 : Int32) (v_u : Nat → Int64) (H : Heap) (locs : List Loc) (ls : Array Slot), lv_has ls 3 [(0, .ref (g.2.1 50)), (2, .int x2)] → GW g s (mkS σ [] [] [] [(67, v_u)]) H locs → M_areTimesWhole_n44 k9 x2 t0 v_u = some (r, w_u) → Wg p l e 2 43 s m args below meth c g (some (.int r)) (mkS σ [] [] [] [(67, w_u)]) H locs (F0 m 44 ls [.int t0]) := by
    intro k9 hk9 x2 t0 v_u H locs ls hl hG h
    unfold M_areTimesWhole_n44 at h
    refine lv_istore_n (lv' := [(1, .int t0), (0, .ref (g.2.1 50)), (2, .int x2)]) hx hb dX9_areTimesWhole_44 rfl hl (Nat.le_of_ble_eq_true rfl) rfl (fun ls hl => ?_)
    refine lv_iinc (v := (x2 + (-1 : Int32))) (lv' := [(2, .int (x2 + (-1 : Int32))), (1, .int t0), (0, .ref (g.2.1 50))]) hx hb dX9_areTimesWhole_45 hl (k := 2) rfl (congrArg (fun z => x2 + z) (by decide)) (Nat.le_of_ble_eq_true rfl) rfl (fun ls hl => ?_)
    refine lv_goto (tgt := 9) hx hb dX9_areTimesWhole_48 (by decide) ?_
    exact hk9 t0 (x2 + (-1 : Int32)) v_u _ _ _ (lv_sub hl [2, 1, 0] rfl) hG h
  have n39 : ∀ (k9 : Int32 → Int32 → (Nat → Int64) → Option (Int32 × (Nat → Int64))) (hk9 : ∀ (x1 : Int32) (x2 : Int32) (v_u : Nat → Int64) (H : Heap) (locs : List Loc) (ls : Array Slot), lv_has ls 3 [(0, .ref (g.2.1 50)), (1, .int x1), (2, .int x2)] → GW g s (mkS σ [] [] [] [(67, v_u)]) H locs → k9 x1 x2 v_u = some (r, w_u) → Wg p l e 2 43 s m args below meth c g (some (.int r)) (mkS σ [] [] [] [(67, w_u)]) H locs (F0 m 9 ls [])) (x2 : Int32) (v_u : Nat → Int64) (H : Heap) (locs : List Loc) (ls : Array Slot), lv_has ls 3 [(0, .ref (g.2.1 50)), (2, .int x2)] → GW g s (mkS σ [] [] [] [(67, v_u)]) H locs → M_areTimesWhole_n39 k9 x2 v_u = some (r, w_u) → Wg p l e 2 43 s m args below meth c g (some (.int r)) (mkS σ [] [] [] [(67, w_u)]) H locs (F0 m 39 ls []) := by
    intro k9 hk9 x2 v_u H locs ls hl hG h
    unfold M_areTimesWhole_n39 at h
    refine lv_iconst (v := (1 : Int32)) hx hb dX9_areTimesWhole_39 (by decide) ?_
    refine lv_goto (tgt := 44) hx hb dX9_areTimesWhole_40 (by decide) ?_
    exact n44 k9 hk9 x2 (1 : Int32) v_u _ _ _ (lv_sub hl [0, 1] rfl) hG h
  have n43 : ∀ (k9 : Int32 → Int32 → (Nat → Int64) → Option (Int32 × (Nat → Int64))) (hk9 : ∀ (x1 : Int32) (x2 : Int32) (v_u : Nat → Int64) (H : Heap) (locs : List Loc) (ls : Array Slot), lv_has ls 3 [(0, .ref (g.2.1 50)), (1, .int x1), (2, .int x2)] → GW g s (mkS σ [] [] [] [(67, v_u)]) H locs → k9 x1 x2 v_u = some (r, w_u) → Wg p l e 2 43 s m args below meth c g (some (.int r)) (mkS σ [] [] [] [(67, w_u)]) H locs (F0 m 9 ls [])) (x2 : Int32) (v_u : Nat → Int64) (H : Heap) (locs : List Loc) (ls : Array Slot), lv_has ls 3 [(0, .ref (g.2.1 50)), (2, .int x2)] → GW g s (mkS σ [] [] [] [(67, v_u)]) H locs → M_areTimesWhole_n43 k9 x2 v_u = some (r, w_u) → Wg p l e 2 43 s m args below meth c g (some (.int r)) (mkS σ [] [] [] [(67, w_u)]) H locs (F0 m 43 ls []) := by
    intro k9 hk9 x2 v_u H locs ls hl hG h
    unfold M_areTimesWhole_n43 at h
    refine lv_iconst (v := (0 : Int32)) hx hb dX9_areTimesWhole_43 (by decide) ?_
    exact n44 k9 hk9 x2 (0 : Int32) v_u _ _ _ (lv_sub hl [0, 1] rfl) hG h
  have n51 : ∀ (x1 : Int32) (v_u : Nat → Int64) (H : Heap) (locs : List Loc) (ls : Array Slot), lv_has ls 3 [(1, .int x1)] → GW g s (mkS σ [] [] [] [(67, v_u)]) H locs → M_areTimesWhole_n51 x1 v_u = some (r, w_u) → Wg p l e 2 43 s m args below meth c g (some (.int r)) (mkS σ [] [] [] [(67, w_u)]) H locs (F0 m 51 ls []) := by
    intro x1 v_u H locs ls hl hG h
    unfold M_areTimesWhole_n51 at h
    refine lv_iload_n hx hb dX9_areTimesWhole_51 rfl (lv_at hl 0 rfl) ?_
    obtain ⟨hg1, h⟩ := gd_some h
    cases h
    exact gx_zret hx hb hr hlocks hg1 hG dX9_areTimesWhole_52
  have n9 : ∀ (k9 : Int32 → Int32 → (Nat → Int64) → Option (Int32 × (Nat → Int64))) (hk9 : ∀ (x1 : Int32) (x2 : Int32) (v_u : Nat → Int64) (H : Heap) (locs : List Loc) (ls : Array Slot), lv_has ls 3 [(0, .ref (g.2.1 50)), (1, .int x1), (2, .int x2)] → GW g s (mkS σ [] [] [] [(67, v_u)]) H locs → k9 x1 x2 v_u = some (r, w_u) → Wg p l e 2 43 s m args below meth c g (some (.int r)) (mkS σ [] [] [] [(67, w_u)]) H locs (F0 m 9 ls [])) (x1 : Int32) (x2 : Int32) (v_u : Nat → Int64) (H : Heap) (locs : List Loc) (ls : Array Slot), lv_has ls 3 [(0, .ref (g.2.1 50)), (1, .int x1), (2, .int x2)] → GW g s (mkS σ [] [] [] [(67, v_u)]) H locs → M_areTimesWhole_n9 k9 (σ.1 3208) (σ.2.1 3224) (σ.2.2.1 56) (σ.2.2.1 57) (σ.2.2.2 65) x1 x2 v_u = some (r, w_u) → Wg p l e 2 43 s m args below meth c g (some (.int r)) (mkS σ [] [] [] [(67, w_u)]) H locs (F0 m 9 ls []) := by
    intro k9 hk9 x1 x2 v_u H locs ls hl hG h
    unfold M_areTimesWhole_n9 at h
    refine lv_iload_n hx hb dX9_areTimesWhole_9 rfl (lv_at hl 2 rfl) ?_
    refine lv_aload_n hx hb dX9_areTimesWhole_10 rfl (lv_at hl 0 rfl) ?_
    refine gx_get (v := .ref (g.2.1 56)) (C := RX9) (T := TX9) (N := 44) hx hb hts mc_X9 hown hK hG (ga_50 g _) rfl 9 (by decide) hw0 rfl rfl dX9_areTimesWhole_11 ?_
    refine lv_iconst (v := (0 : Int32)) hx hb dX9_areTimesWhole_14 (by decide) ?_
    refine gx_iald (f := (σ.2.2.1 56)) hx hb hK hG (ga_56 g _) (by decide) dX9_areTimesWhole_15 ?_
    refine lv_ineg hx hb dX9_areTimesWhole_16 ?_
    refine lv_icmp_lt (tgt := 51) hx hb dX9_areTimesWhole_17 (by decide) (fun c2 => ?_) (fun c2 => ?_)
    · have h := ite_t c2 h
      exact n51 x1 v_u _ _ _ (lv_sub hl [1] rfl) hG h
    · have h := ite_f c2 h
      refine lv_iload_n hx hb dX9_areTimesWhole_20 rfl (lv_at hl 1 rfl) ?_
      refine lv_if_eq (tgt := 43) hx hb dX9_areTimesWhole_21 (by decide) (fun c3 => ?_) (fun c3 => ?_)
      · have h := ite_t c3 h
        exact n43 k9 hk9 x2 v_u _ _ _ (lv_sub hl [0, 2] rfl) hG h
      · have h := ite_f c3 h
        refine lv_aload_n hx hb dX9_areTimesWhole_24 rfl (lv_at hl 0 rfl) ?_
        refine lv_iload_n hx hb dX9_areTimesWhole_25 rfl (lv_at hl 2 rfl) ?_
        obtain ⟨z4, hc5, h⟩ := bnd_some h
        refine gx_cV (σ' := (mkS σ [] [] [] [(67, z4.2)])) (r := (some (.int z4.1))) (rest := []) (As := [.int x2]) hS9 (c_M_isRoot l g (mkS σ [] [] [] [(67, v_u)]) x2 z4.1 z4.2 hc5) (mk_mk rfl rfl rfl rfl) (cwV 1 hts (gz_V mw_5_237 mw_5_239 ms_4_14 mw_1_11 mw_6_0) rfl rfl rfl hdV_X9_isRoot ⟨Nat.le_of_ble_eq_true rfl, Nat.le_of_ble_eq_true rfl⟩) hK hG (ga_50 g _) rfl rfl rfl hl.1 rfl (Nat.le_of_ble_eq_true rfl) dX9_areTimesWhole_26 (fun H locs hG => ?_)
        refine W.eq (g2 := F0 m 29 ls [.int z4.1]) rfl ?_
        refine lv_if_eq (tgt := 39) hx hb dX9_areTimesWhole_29 (by decide) (fun c6 => ?_) (fun c6 => ?_)
        · have h := ite_t c6 h
          exact n39 k9 hk9 x2 z4.2 _ _ _ (lv_sub hl [0, 2] rfl) hG h
        · have h := ite_f c6 h
          refine lv_aload_n hx hb dX9_areTimesWhole_32 rfl (lv_at hl 0 rfl) ?_
          obtain ⟨z7, hc8, h⟩ := bnd_some h
          refine gx_cV (σ' := (mkS σ [] [] [] [(67, z4.2)])) (r := (some (.int z7))) (rest := []) (As := []) hS9 (c_M_times l g (mkS σ [] [] [] [(67, z4.2)]) z7 hc8) rfl (cwV 0 hts (gz_V mw_6_1 mw_6_3 ms_4_15 mw_1_11 mw_6_4) rfl rfl rfl hdV_X9_times ⟨Nat.le_of_ble_eq_true rfl, Nat.le_of_ble_eq_true rfl⟩) hK hG (ga_50 g _) rfl rfl rfl hl.1 rfl (Nat.le_of_ble_eq_true rfl) dX9_areTimesWhole_33 (fun H locs hG => ?_)
          refine W.eq (g2 := F0 m 36 ls [.int z7]) rfl ?_
          refine lv_if_lt (tgt := 43) hx hb dX9_areTimesWhole_36 (by decide) (fun c9 => ?_) (fun c9 => ?_)
          · have h := ite_t c9 h
            exact n43 k9 hk9 x2 z4.2 _ _ _ (lv_sub hl [0, 2] rfl) hG h
          · have h := ite_f c9 h
            exact n39 k9 hk9 x2 z4.2 _ _ _ (lv_sub hl [0, 2] rfl) hG h
  have l9 : ∀  (F : Nat) (x1 : Int32) (x2 : Int32) (v_u : Nat → Int64) (H : Heap) (locs : List Loc) (ls : Array Slot), lv_has ls 3 [(0, .ref (g.2.1 50)), (1, .int x1), (2, .int x2)] → GW g s (mkS σ [] [] [] [(67, v_u)]) H locs → M_areTimesWhole_l9 (σ.1 3208) (σ.2.1 3224) (σ.2.2.1 56) (σ.2.2.1 57) (σ.2.2.2 65) F x1 x2 v_u = some (r, w_u) → Wg p l e 2 43 s m args below meth c g (some (.int r)) (mkS σ [] [] [] [(67, w_u)]) H locs (F0 m 9 ls []) := by
    intro F
    induction F with
    | zero => intro x1 x2 v_u H locs ls hl hG h; exact no_some h
    | succ F ih => intro x1 x2 v_u H locs ls hl hG h; exact n9 (fun x1 x2 v_u => M_areTimesWhole_l9 (σ.1 3208) (σ.2.1 3224) (σ.2.2.1 56) (σ.2.2.1 57) (σ.2.2.2 65) F x1 x2 v_u) ih x1 x2 v_u H locs ls hl hG h
  refine lv_iconst (v := (1 : Int32)) hx hb dX9_areTimesWhole_0 (by decide) ?_
  refine lv_istore_n (lv' := [(1, .int (1 : Int32)), (0, .ref (g.2.1 50))]) hx hb dX9_areTimesWhole_1 rfl hl (Nat.le_of_ble_eq_true rfl) rfl (fun ls hl => ?_)
  refine lv_aload_n hx hb dX9_areTimesWhole_2 rfl (lv_at hl 1 rfl) ?_
  refine gx_get (v := .ref (g.2.1 56)) (C := RX9) (T := TX9) (N := 44) hx hb hts mc_X9 hown hK hG (ga_50 g _) rfl 9 (by decide) hw0 rfl rfl dX9_areTimesWhole_3 ?_
  refine lv_iconst (v := (0 : Int32)) hx hb dX9_areTimesWhole_6 (by decide) ?_
  refine gx_iald (f := (σ.2.2.1 56)) hx hb hK hG (ga_56 g _) (by decide) dX9_areTimesWhole_7 ?_
  refine lv_istore_n (lv' := [(2, .int ((σ.2.2.1 56) ((0 : Int32).toNatClampNeg))), (1, .int (1 : Int32)), (0, .ref (g.2.1 50))]) hx hb dX9_areTimesWhole_8 rfl hl (Nat.le_of_ble_eq_true rfl) rfl (fun ls hl => ?_)
  exact l9 FUEL (1 : Int32) ((σ.2.2.1 56) ((0 : Int32).toNatClampNeg)) (σ.2.2.2 67) _ _ _ (lv_sub hl [2, 1, 0] rfl) hG h

set_option maxHeartbeats 4000000 in
set_option maxRecDepth 100000 in
theorem c_M_can (l : Launch) (g : GC) (σ : St) (r : Int32) (w_all : Int64) (w_sizes : Nat → Int64) (w_third : Nat → Int64) (w_u : Nat → Int64) (h : M_can (σ.1 3208) (σ.2.1 3224) (σ.2.2.1 56) (σ.2.2.1 57) (σ.2.2.2 65) (σ.2.2.2 66) (σ.2.2.2 67) = some (r, w_all, w_sizes, w_third, w_u)) : Cn l g yX9_can (Cond.code yX9_can cX9_can 2 (some .int) :: wG) 3 69 [.ref (g.2.1 50)] σ (some (.int r)) (mkS σ [] [(3224, w_all)] [] [(65, w_sizes), (66, w_third), (67, w_u)]) := by
  unfold Cn
  refine Met.ofW (cc := cX9_can) (maxL := 2) (ret := (some .int)) (by decide) rfl ?_
  intro p e s m args below meth c s₁ B hml hv
  obtain ⟨hargs, hP0, hK⟩ := hv
  have hx := B.exec
  have hb := B.bytes
  have hr := B.returns
  have hts : ∀ w ∈ wG, w.before args s = true := fun w h => atoms_spec (ws := (Cond.code yX9_can cX9_can 2 (some .int) :: wG)) B.pre w (List.mem_cons_of_mem _ h)
  have hown : s.vm.findClass RX9 = some m.cls := findClass_of_methodNamed B.named
  have hlocks := B.notSynchronized
  have hS9 : CallFix p m c cX9_can 2 s args wG RX9 := ⟨hx, hb, hml, hown, hts⟩
  have hf9 : entryFrame m args 2 = _ := (congrArg (fun a => entryFrame m a 2) hargs).trans (lg_entry_eq m [.ref (g.2.1 50)] 2)
  show Wg p l e 3 69 s m args below meth c g (some (.int r)) (mkS σ [] [(3224, w_all)] [] [(65, w_sizes), (66, w_third), (67, w_u)]) s.heap [] (entryFrame m args 2)
  rw [hf9]
  have hl := lv_entry ([.ref (g.2.1 50)]) (n := 2) (Nat.le_of_ble_eq_true rfl)
  generalize (lg_sl ([.ref (g.2.1 50)]) ++ List.replicate (2 - (lg_sl ([.ref (g.2.1 50)])).length) Slot.unset).toArray = ls at hl ⊢
  have hl : lv_has ls 2 [(0, .ref (g.2.1 50))] := hl
  have hG : GW g s σ s.heap [] := ⟨hP0, va_S.rf⟩
  have hG : GW g s (mkS σ [] [(3224, (σ.2.1 3224))] [] [(65, (σ.2.2.2 65)), (66, (σ.2.2.2 66)), (67, (σ.2.2.2 67))]) s.heap [] := GW_self [] [3224] [] [65, 66, 67] hG
  unfold M_can at h
  have n26 : ∀ (t0 : Int32) (v_all : Int64) (v_sizes : Nat → Int64) (v_third : Nat → Int64) (v_u : Nat → Int64) (H : Heap) (locs : List Loc) (ls : Array Slot), lv_has ls 2 [] → GW g s (mkS σ [] [(3224, v_all)] [] [(65, v_sizes), (66, v_third), (67, v_u)]) H locs → M_can_n26 t0 v_all v_sizes v_third v_u = some (r, w_all, w_sizes, w_third, w_u) → Wg p l e 3 69 s m args below meth c g (some (.int r)) (mkS σ [] [(3224, w_all)] [] [(65, w_sizes), (66, w_third), (67, w_u)]) H locs (F0 m 26 ls [.int t0]) := by
    intro t0 v_all v_sizes v_third v_u H locs ls hl hG h
    unfold M_can_n26 at h
    cases h
    exact gx_iret hx hb hr hlocks hG dX9_can_26
  refine lv_aload_n hx hb dX9_can_0 rfl (lv_at hl 0 rfl) ?_
  obtain ⟨z1, hc2, h⟩ := bnd_some h
  refine gx_cV (σ' := (mkS σ [] [(3224, z1.2.1)] [] [(65, z1.2.2.1), (66, z1.2.2.2), (67, (σ.2.2.2 67))])) (r := (some (.int z1.1))) (rest := []) (As := []) hS9 (c_M_laws l g (mkS σ [] [(3224, (σ.2.1 3224))] [] [(65, (σ.2.2.2 65)), (66, (σ.2.2.2 66)), (67, (σ.2.2.2 67))]) z1.1 z1.2.1 z1.2.2.1 z1.2.2.2 hc2) (mk_mk rfl rfl rfl rfl) (cwV 0 hts (gz_V mw_5_208 mw_5_210 ms_4_7 mw_1_11 mw_5_211) rfl rfl rfl hdV_X9_laws ⟨Nat.le_of_ble_eq_true rfl, Nat.le_of_ble_eq_true rfl⟩) hK hG (ga_50 g _) rfl rfl rfl hl.1 rfl (Nat.le_of_ble_eq_true rfl) dX9_can_1 (fun H locs hG => ?_)
  refine W.eq (g2 := F0 m 4 ls [.int z1.1]) rfl ?_
  refine lv_istore_n (lv' := [(1, .int z1.1), (0, .ref (g.2.1 50))]) hx hb dX9_can_4 rfl hl (Nat.le_of_ble_eq_true rfl) rfl (fun ls hl => ?_)
  refine lv_iload_n hx hb dX9_can_5 rfl (lv_at hl 0 rfl) ?_
  refine lv_if_le (tgt := 13) hx hb dX9_can_6 (by decide) (fun c3 => ?_) (fun c3 => ?_)
  · have h := ite_t c3 h
    refine lv_aload_n hx hb dX9_can_13 rfl (lv_at hl 1 rfl) ?_
    obtain ⟨z4, hc5, h⟩ := bnd_some h
    refine gx_cV (σ' := (mkS σ [] [(3224, z1.2.1)] [] [(65, z1.2.2.1), (66, z1.2.2.2), (67, z4.2)])) (r := (some (.int z4.1))) (rest := []) (As := []) hS9 (c_M_areTimesWhole l g (mkS σ [] [(3224, z1.2.1)] [] [(65, z1.2.2.1), (66, z1.2.2.2), (67, (σ.2.2.2 67))]) z4.1 z4.2 hc5) (mk_mk rfl rfl rfl rfl) (cwV 0 hts (gz_V mw_5_233 mw_5_235 ms_4_13 mw_1_11 mw_5_236) rfl rfl rfl hdV_X9_areTimesWhole ⟨Nat.le_of_ble_eq_true rfl, Nat.le_of_ble_eq_true rfl⟩) hK hG (ga_50 g _) rfl rfl rfl hl.1 rfl (Nat.le_of_ble_eq_true rfl) dX9_can_14 (fun H locs hG => ?_)
    refine W.eq (g2 := F0 m 17 ls [.int z4.1]) rfl ?_
    refine lv_if_eq (tgt := 24) hx hb dX9_can_17 (by decide) (fun c6 => ?_) (fun c6 => ?_)
    · have h := ite_t c6 h
      refine lv_bipush (v := (7 : Int32)) hx hb dX9_can_24 (by decide) ?_
      exact n26 (7 : Int32) z1.2.1 z1.2.2.1 z1.2.2.2 z4.2 _ _ _ (lv_sub hl [] rfl) hG h
    · have h := ite_f c6 h
      refine lv_iconst (v := (0 : Int32)) hx hb dX9_can_20 (by decide) ?_
      refine lv_goto (tgt := 26) hx hb dX9_can_21 (by decide) ?_
      exact n26 (0 : Int32) z1.2.1 z1.2.2.1 z1.2.2.2 z4.2 _ _ _ (lv_sub hl [] rfl) hG h
  · have h := ite_f c3 h
    refine lv_iload_n hx hb dX9_can_9 rfl (lv_at hl 0 rfl) ?_
    refine lv_goto (tgt := 26) hx hb dX9_can_10 (by decide) ?_
    exact n26 z1.1 z1.2.1 z1.2.2.1 z1.2.2.2 (σ.2.2.2 67) _ _ _ (lv_sub hl [] rfl) hG h

set_option maxHeartbeats 4000000 in
set_option maxRecDepth 100000 in
theorem c_M_isSheet (l : Launch) (g : GC) (σ : St) (x0 : Int32) (r : Int32) (h : M_isSheet x0 = some r) : Cn l g yX9_isSheet (Cond.code yX9_isSheet cX9_isSheet 1 (some .boolean) :: wG) 1 25 [.int x0] σ (some (.int r)) σ := by
  unfold Cn
  refine Met.ofW (cc := cX9_isSheet) (maxL := 1) (ret := (some .boolean)) (by decide) rfl ?_
  intro p e s m args below meth c s₁ B hml hv
  obtain ⟨hargs, hP0, hK⟩ := hv
  have hx := B.exec
  have hb := B.bytes
  have hr := B.returns
  have hts : ∀ w ∈ wG, w.before args s = true := fun w h => atoms_spec (ws := (Cond.code yX9_isSheet cX9_isSheet 1 (some .boolean) :: wG)) B.pre w (List.mem_cons_of_mem _ h)
  have hown : s.vm.findClass RX9 = some m.cls := findClass_of_methodNamed B.named
  have hlocks := B.notSynchronized
  have hS9 : CallFix p m c cX9_isSheet 1 s args wG RX9 := ⟨hx, hb, hml, hown, hts⟩
  have hw0 := hts _ mw_5_40
  have hf9 : entryFrame m args 1 = _ := (congrArg (fun a => entryFrame m a 1) hargs).trans (lg_entry_eq m [.int x0] 1)
  show Wg p l e 1 25 s m args below meth c g (some (.int r)) σ s.heap [] (entryFrame m args 1)
  rw [hf9]
  have hl := lv_entry ([.int x0]) (n := 1) (Nat.le_of_ble_eq_true rfl)
  generalize (lg_sl ([.int x0]) ++ List.replicate (1 - (lg_sl ([.int x0])).length) Slot.unset).toArray = ls at hl ⊢
  have hl : lv_has ls 1 [(0, .int x0)] := hl
  have hG : GW g s σ s.heap [] := ⟨hP0, va_S.rf⟩
  unfold M_isSheet at h
  refine lv_iload_n hx hb dX9_isSheet_0 rfl (lv_at hl 0 rfl) ?_
  refine lv_i2l hx hb dX9_isSheet_1 rfl ?_
  refine lv_lconst (v := (0 : Int64)) hx hb dX9_isSheet_2 (by decide) ?_
  refine lv_ldc2 hx hb hown hw0 dX9_isSheet_3 ?_
  obtain ⟨z1, hc2, h⟩ := bnd_some h
  refine gx_cS (σ' := σ) (r := (some (.int z1))) (rest := []) (As := [.long (x0.toInt64), .long (0 : Int64), .long (3 : Int64)]) hS9 (c_M_in l g σ (x0.toInt64) (0 : Int64) (3 : Int64) z1 hc2) rfl (va_cwS 3 hts (gz_S mw_5_41 mw_5_42 mw_1_11 mw_5_43) rfl rfl rfl hdS_X9_in ⟨Nat.le_of_ble_eq_true rfl, Nat.le_of_ble_eq_true rfl⟩) hK hG rfl hl.1 rfl (Nat.le_of_ble_eq_true rfl) dX9_isSheet_6 (fun H locs hG => ?_)
  refine W.eq (g2 := F0 m 9 ls [.int z1]) rfl ?_
  obtain ⟨hg3, h⟩ := gd_some h
  cases h
  exact gx_zret hx hb hr hlocks hg3 hG dX9_isSheet_9

set_option maxHeartbeats 4000000 in
set_option maxRecDepth 100000 in
theorem c_M_cell (l : Launch) (g : GC) (σ : St) (x1 : Int32) (x2 : Int32) (x3 : Int32) (r : Int32) (w_cellOf : Nat → Int32) (h : M_cell x1 x2 x3 (σ.2.2.1 53) (σ.2.2.1 51) (σ.2.2.1 52) = some (r, w_cellOf)) : Cn l g yX9_cell (Cond.code yX9_cell cX9_cell 4 (some .int) :: wG) 2 45 [.ref (g.2.1 50), .int x1, .int x2, .int x3] σ (some (.int r)) (mkS σ [] [] [(53, w_cellOf)] []) := by
  unfold Cn
  refine Met.ofW (cc := cX9_cell) (maxL := 4) (ret := (some .int)) (by decide) rfl ?_
  intro p e s m args below meth c s₁ B hml hv
  obtain ⟨hargs, hP0, hK⟩ := hv
  have hx := B.exec
  have hb := B.bytes
  have hr := B.returns
  have hts : ∀ w ∈ wG, w.before args s = true := fun w h => atoms_spec (ws := (Cond.code yX9_cell cX9_cell 4 (some .int) :: wG)) B.pre w (List.mem_cons_of_mem _ h)
  have hown : s.vm.findClass RX9 = some m.cls := findClass_of_methodNamed B.named
  have hlocks := B.notSynchronized
  have hS9 : CallFix p m c cX9_cell 4 s args wG RX9 := ⟨hx, hb, hml, hown, hts⟩
  have hw0 := hts _ mw_4_140
  have hw1 := hts _ mw_4_141
  have hw2 := hts _ mw_4_139
  have hf9 : entryFrame m args 4 = _ := (congrArg (fun a => entryFrame m a 4) hargs).trans (lg_entry_eq m [.ref (g.2.1 50), .int x1, .int x2, .int x3] 4)
  show Wg p l e 2 45 s m args below meth c g (some (.int r)) (mkS σ [] [] [(53, w_cellOf)] []) s.heap [] (entryFrame m args 4)
  rw [hf9]
  have hl := lv_entry ([.ref (g.2.1 50), .int x1, .int x2, .int x3]) (n := 4) (Nat.le_of_ble_eq_true rfl)
  generalize (lg_sl ([.ref (g.2.1 50), .int x1, .int x2, .int x3]) ++ List.replicate (4 - (lg_sl ([.ref (g.2.1 50), .int x1, .int x2, .int x3])).length) Slot.unset).toArray = ls at hl ⊢
  have hl : lv_has ls 4 [(0, .ref (g.2.1 50)), (1, .int x1), (2, .int x2), (3, .int x3)] := hl
  have hG : GW g s σ s.heap [] := ⟨hP0, va_S.rf⟩
  have hG : GW g s (mkS σ [] [] [(53, (σ.2.2.1 53))] []) s.heap [] := GW_self [] [] [53] [] hG
  unfold M_cell at h
  have n81 : ∀ (t1 : Int32) (t2 : Int32) (v_cellOf : Nat → Int32) (H : Heap) (locs : List Loc) (ls : Array Slot), lv_has ls 4 [] → GW g s (mkS σ [] [] [(53, v_cellOf)] []) H locs → M_cell_n81 t1 t2 v_cellOf = some (r, w_cellOf) → Wg p l e 2 45 s m args below meth c g (some (.int r)) (mkS σ [] [] [(53, w_cellOf)] []) H locs (F0 m 81 ls [.int t2, .int t1, .ref (g.2.1 53)]) := by
    intro t1 t2 v_cellOf H locs ls hl hG h
    unfold M_cell_n81 at h
    obtain ⟨hg1, h⟩ := gd_some h
    refine gx_iast (σ' := (mkS σ [] [] [(53, (upd v_cellOf (t1.toNatClampNeg) t2))] [])) (f := v_cellOf) hx hb hK hG (ga_53 g _) hg1 ((gs_53 g _ _).trans (congrArg (g_cells g) (mk_c 0 rfl rfl))) dX9_cell_81 (fun H locs hG => ?_)
    refine lv_iconst (v := (1 : Int32)) hx hb dX9_cell_82 (by decide) ?_
    cases h
    exact gx_iret hx hb hr hlocks hG dX9_cell_83
  refine lv_iload_n hx hb dX9_cell_0 rfl (lv_at hl 1 rfl) ?_
  obtain ⟨z2, hc3, h⟩ := bnd_some h
  refine gx_cS (σ' := (mkS σ [] [] [(53, (σ.2.2.1 53))] [])) (r := (some (.int z2))) (rest := []) (As := [.int x1]) hS9 (c_M_isSheet l g (mkS σ [] [] [(53, (σ.2.2.1 53))] []) x1 z2 hc3) rfl (va_cwS 1 hts (gz_S mw_5_37 mw_5_38 mw_1_11 mw_5_39) rfl rfl rfl hdS_X9_isSheet ⟨Nat.le_of_ble_eq_true rfl, Nat.le_of_ble_eq_true rfl⟩) hK hG rfl hl.1 rfl (Nat.le_of_ble_eq_true rfl) dX9_cell_1 (fun H locs hG => ?_)
  refine W.eq (g2 := F0 m 4 ls [.int z2]) rfl ?_
  refine lv_if_ne (tgt := 9) hx hb dX9_cell_4 (by decide) (fun c4 => ?_) (fun c4 => ?_)
  · have h := ite_f c4 h
    refine lv_aload_n hx hb dX9_cell_9 rfl (lv_at hl 0 rfl) ?_
    refine gx_get (v := .ref (g.2.1 52)) (C := RX9) (T := TX9) (N := 44) hx hb hts mc_X9 hown hK hG (ga_50 g _) rfl 1 (by decide) hw0 rfl rfl dX9_cell_10 ?_
    refine lv_iload_n hx hb dX9_cell_13 rfl (lv_at hl 1 rfl) ?_
    obtain ⟨hg5, h⟩ := gd_some h
    refine gx_iald (f := (σ.2.2.1 52)) hx hb hK hG (ga_52 g _) hg5 dX9_cell_14 ?_
    refine lv_if_ge (tgt := 21) hx hb dX9_cell_15 (by decide) (fun c6 => ?_) (fun c6 => ?_)
    · have h := ite_t c6 h
      refine lv_iload_n hx hb dX9_cell_21 rfl (lv_at hl 2 rfl) ?_
      refine lv_i2l hx hb dX9_cell_22 rfl ?_
      refine lv_lconst (v := (0 : Int64)) hx hb dX9_cell_23 (by decide) ?_
      refine lv_aload_n hx hb dX9_cell_24 rfl (lv_at hl 0 rfl) ?_
      refine gx_get (v := .ref (g.2.1 52)) (C := RX9) (T := TX9) (N := 44) hx hb hts mc_X9 hown hK hG (ga_50 g _) rfl 1 (by decide) hw0 rfl rfl dX9_cell_25 ?_
      refine lv_iload_n hx hb dX9_cell_28 rfl (lv_at hl 1 rfl) ?_
      refine gx_iald (f := (σ.2.2.1 52)) hx hb hK hG (ga_52 g _) hg5 dX9_cell_29 ?_
      refine lv_iconst (v := (1 : Int32)) hx hb dX9_cell_30 (by decide) ?_
      refine lv_isub hx hb dX9_cell_31 ?_
      refine lv_i2l hx hb dX9_cell_32 rfl ?_
      obtain ⟨z7, hc8, h⟩ := bnd_some h
      refine gx_cS (σ' := (mkS σ [] [] [(53, (σ.2.2.1 53))] [])) (r := (some (.int z7))) (rest := []) (As := [.long (x2.toInt64), .long (0 : Int64), .long ((((σ.2.2.1 52) (x1.toNatClampNeg)) - (1 : Int32)).toInt64)]) hS9 (c_M_in l g (mkS σ [] [] [(53, (σ.2.2.1 53))] []) (x2.toInt64) (0 : Int64) ((((σ.2.2.1 52) (x1.toNatClampNeg)) - (1 : Int32)).toInt64) z7 hc8) rfl (va_cwS 3 hts (gz_S mw_5_41 mw_5_42 mw_1_11 mw_5_43) rfl rfl rfl hdS_X9_in ⟨Nat.le_of_ble_eq_true rfl, Nat.le_of_ble_eq_true rfl⟩) hK hG rfl hl.1 rfl (Nat.le_of_ble_eq_true rfl) dX9_cell_33 (fun H locs hG => ?_)
      refine W.eq (g2 := F0 m 36 ls [.int z7]) rfl ?_
      refine lv_if_ne (tgt := 41) hx hb dX9_cell_36 (by decide) (fun c9 => ?_) (fun c9 => ?_)
      · have h := ite_f c9 h
        refine lv_aload_n hx hb dX9_cell_41 rfl (lv_at hl 0 rfl) ?_
        refine gx_get (v := .ref (g.2.1 53)) (C := RX9) (T := TX9) (N := 44) hx hb hts mc_X9 hown hK hG (ga_50 g _) rfl 2 (by decide) hw1 rfl rfl dX9_cell_42 ?_
        refine lv_bipush (v := (60 : Int32)) hx hb dX9_cell_45 (by decide) ?_
        refine lv_iload_n hx hb dX9_cell_47 rfl (lv_at hl 1 rfl) ?_
        refine lv_imul hx hb dX9_cell_48 ?_
        refine lv_iload_n hx hb dX9_cell_49 rfl (lv_at hl 2 rfl) ?_
        refine lv_iadd hx hb dX9_cell_50 ?_
        refine lv_aload_n hx hb dX9_cell_51 rfl (lv_at hl 0 rfl) ?_
        refine gx_get (v := .ref (g.2.1 51)) (C := RX9) (T := TX9) (N := 44) hx hb hts mc_X9 hown hK hG (ga_50 g _) rfl 0 (by decide) hw2 rfl rfl dX9_cell_52 ?_
        refine lv_iload_n hx hb dX9_cell_55 rfl (lv_at hl 1 rfl) ?_
        refine gx_iald (f := (σ.2.2.1 51)) hx hb hK hG (ga_51 g _) hg5 dX9_cell_56 ?_
        refine lv_if_ne (tgt := 65) hx hb dX9_cell_57 (by decide) (fun c10 => ?_) (fun c10 => ?_)
        · have h := ite_f c10 h
          refine lv_aload_n hx hb dX9_cell_65 rfl (lv_at hl 0 rfl) ?_
          refine gx_get (v := .ref (g.2.1 51)) (C := RX9) (T := TX9) (N := 44) hx hb hts mc_X9 hown hK hG (ga_50 g _) rfl 0 (by decide) hw2 rfl rfl dX9_cell_66 ?_
          refine lv_iload_n hx hb dX9_cell_69 rfl (lv_at hl 1 rfl) ?_
          refine gx_iald (f := (σ.2.2.1 51)) hx hb hK hG (ga_51 g _) hg5 dX9_cell_70 ?_
          refine lv_iconst (v := (1 : Int32)) hx hb dX9_cell_71 (by decide) ?_
          refine lv_icmp_ne (tgt := 80) hx hb dX9_cell_72 (by decide) (fun c11 => ?_) (fun c11 => ?_)
          · have h := ite_f c11 h
            refine lv_iload_n hx hb dX9_cell_80 rfl (lv_at hl 3 rfl) ?_
            exact n81 (((60 : Int32) * x1) + x2) x3 (σ.2.2.1 53) _ _ _ (lv_sub hl [] rfl) hG h
          · have h := ite_t c11 h
            refine lv_iload_n hx hb dX9_cell_75 rfl (lv_at hl 3 rfl) ?_
            refine lv_i2s hx hb dX9_cell_76 rfl ?_
            refine lv_goto (tgt := 81) hx hb dX9_cell_77 (by decide) ?_
            exact n81 (((60 : Int32) * x1) + x2) (x3.toInt16.toInt32) (σ.2.2.1 53) _ _ _ (lv_sub hl [] rfl) hG h
        · have h := ite_t c10 h
          refine lv_iload_n hx hb dX9_cell_60 rfl (lv_at hl 3 rfl) ?_
          refine lv_i2b hx hb dX9_cell_61 rfl ?_
          refine lv_goto (tgt := 81) hx hb dX9_cell_62 (by decide) ?_
          exact n81 (((60 : Int32) * x1) + x2) (x3.toInt8.toInt32) (σ.2.2.1 53) _ _ _ (lv_sub hl [] rfl) hG h
      · have h := ite_t c9 h
        refine lv_iconst (v := (-1 : Int32)) hx hb dX9_cell_39 (by decide) ?_
        cases h
        exact gx_iret hx hb hr hlocks hG dX9_cell_40
    · have h := ite_f c6 h
      refine lv_bipush (v := (-3 : Int32)) hx hb dX9_cell_18 (by decide) ?_
      cases h
      exact gx_iret hx hb hr hlocks hG dX9_cell_20
  · have h := ite_t c4 h
    refine lv_iconst (v := (-1 : Int32)) hx hb dX9_cell_7 (by decide) ?_
    cases h
    exact gx_iret hx hb hr hlocks hG dX9_cell_8

set_option maxHeartbeats 4000000 in
set_option maxRecDepth 100000 in
theorem c_M_measureFrom (l : Launch) (g : GC) (σ : St) (x1 : Int32) (w_wayOf : Nat → Int32) (h : M_measureFrom x1 (σ.1 3203) (σ.2.2.1 54) (σ.2.2.1 59) = some w_wayOf) : Cn l g yX9_measureFrom (Cond.code yX9_measureFrom cX9_measureFrom 5 none :: wG) 0 0 [.ref (g.2.1 50), .int x1] σ none (mkS σ [] [] [(59, w_wayOf)] []) := by
  unfold Cn
  refine Met.ofW (cc := cX9_measureFrom) (maxL := 5) (ret := none) (by decide) rfl ?_
  intro p e s m args below meth c s₁ B hml hv
  obtain ⟨hargs, hP0, hK⟩ := hv
  have hx := B.exec
  have hb := B.bytes
  have hr := B.returns
  have hts : ∀ w ∈ wG, w.before args s = true := fun w h => atoms_spec (ws := (Cond.code yX9_measureFrom cX9_measureFrom 5 none :: wG)) B.pre w (List.mem_cons_of_mem _ h)
  have hown : s.vm.findClass RX9 = some m.cls := findClass_of_methodNamed B.named
  have hlocks := B.notSynchronized
  have hw0 := hts _ mw_4_142
  have hw1 := hts _ mw_4_152
  have hw2 := hts _ mw_4_143
  have hf9 : entryFrame m args 5 = _ := (congrArg (fun a => entryFrame m a 5) hargs).trans (lg_entry_eq m [.ref (g.2.1 50), .int x1] 5)
  show Wg p l e 0 0 s m args below meth c g none (mkS σ [] [] [(59, w_wayOf)] []) s.heap [] (entryFrame m args 5)
  rw [hf9]
  have hl := lv_entry ([.ref (g.2.1 50), .int x1]) (n := 5) (Nat.le_of_ble_eq_true rfl)
  generalize (lg_sl ([.ref (g.2.1 50), .int x1]) ++ List.replicate (5 - (lg_sl ([.ref (g.2.1 50), .int x1])).length) Slot.unset).toArray = ls at hl ⊢
  have hl : lv_has ls 5 [(0, .ref (g.2.1 50)), (1, .int x1)] := hl
  have hG : GW g s σ s.heap [] := ⟨hP0, va_S.rf⟩
  have hG : GW g s (mkS σ [] [] [(59, (σ.2.2.1 59))] []) s.heap [] := GW_self [] [] [59] [] hG
  unfold M_measureFrom at h
  have n29 : ∀ (k2 : Int32 → Int32 → (Nat → Int32) → Option ((Nat → Int32))) (hk2 : ∀ (x1 : Int32) (x2 : Int32) (v_wayOf : Nat → Int32) (H : Heap) (locs : List Loc) (ls : Array Slot), lv_has ls 5 [(0, .ref (g.2.1 50)), (1, .int x1), (2, .int x2)] → GW g s (mkS σ [] [] [(59, v_wayOf)] []) H locs → k2 x1 x2 v_wayOf = some w_wayOf → Wg p l e 0 0 s m args below meth c g none (mkS σ [] [] [(59, w_wayOf)] []) H locs (F0 m 2 ls [])) (x1 : Int32) (x2 : Int32) (t1 : Int32) (t2 : Int32) (v_wayOf : Nat → Int32) (H : Heap) (locs : List Loc) (ls : Array Slot), lv_has ls 5 [(0, .ref (g.2.1 50)), (1, .int x1), (2, .int x2)] → GW g s (mkS σ [] [] [(59, v_wayOf)] []) H locs → M_measureFrom_n29 k2 x1 x2 t1 t2 v_wayOf = some w_wayOf → Wg p l e 0 0 s m args below meth c g none (mkS σ [] [] [(59, w_wayOf)] []) H locs (F0 m 29 ls [.int t2, .int t1, .ref (g.2.1 59)]) := by
    intro k2 hk2 x1 x2 t1 t2 v_wayOf H locs ls hl hG h
    unfold M_measureFrom_n29 at h
    obtain ⟨hg1, h⟩ := gd_some h
    refine gx_iast (σ' := (mkS σ [] [] [(59, (upd v_wayOf (t1.toNatClampNeg) t2))] [])) (f := v_wayOf) hx hb hK hG (ga_59 g _) hg1 ((gs_59 g _ _).trans (congrArg (g_cells g) (mk_c 0 rfl rfl))) dX9_measureFrom_29 (fun H locs hG => ?_)
    refine lv_iinc (v := (x2 + (1 : Int32))) (lv' := [(2, .int (x2 + (1 : Int32))), (0, .ref (g.2.1 50)), (1, .int x1)]) hx hb dX9_measureFrom_30 hl (k := 2) rfl (congrArg (fun z => x2 + z) (by decide)) (Nat.le_of_ble_eq_true rfl) rfl (fun ls hl => ?_)
    refine lv_goto (tgt := 2) hx hb dX9_measureFrom_33 (by decide) ?_
    exact hk2 x1 (x2 + (1 : Int32)) (upd v_wayOf (t1.toNatClampNeg) t2) _ _ _ (lv_sub hl [1, 2, 0] rfl) hG h
  have n130 : ∀ (k59 : Int32 → Int32 → Int32 → Int32 → (Nat → Int32) → Option ((Nat → Int32))) (hk59 : ∀ (x1 : Int32) (x2 : Int32) (x3 : Int32) (x4 : Int32) (v_wayOf : Nat → Int32) (H : Heap) (locs : List Loc) (ls : Array Slot), lv_has ls 5 [(0, .ref (g.2.1 50)), (1, .int x1), (2, .int x2), (3, .int x3), (4, .int x4)] → GW g s (mkS σ [] [] [(59, v_wayOf)] []) H locs → k59 x1 x2 x3 x4 v_wayOf = some w_wayOf → Wg p l e 0 0 s m args below meth c g none (mkS σ [] [] [(59, w_wayOf)] []) H locs (F0 m 59 ls [])) (x1 : Int32) (x2 : Int32) (x3 : Int32) (x4 : Int32) (v_wayOf : Nat → Int32) (H : Heap) (locs : List Loc) (ls : Array Slot), lv_has ls 5 [(0, .ref (g.2.1 50)), (1, .int x1), (2, .int x2), (3, .int x3), (4, .int x4)] → GW g s (mkS σ [] [] [(59, v_wayOf)] []) H locs → M_measureFrom_n130 k59 x1 x2 x3 x4 v_wayOf = some w_wayOf → Wg p l e 0 0 s m args below meth c g none (mkS σ [] [] [(59, w_wayOf)] []) H locs (F0 m 130 ls []) := by
    intro k59 hk59 x1 x2 x3 x4 v_wayOf H locs ls hl hG h
    unfold M_measureFrom_n130 at h
    refine lv_iinc (v := (x4 + (1 : Int32))) (lv' := [(4, .int (x4 + (1 : Int32))), (0, .ref (g.2.1 50)), (1, .int x1), (2, .int x2), (3, .int x3)]) hx hb dX9_measureFrom_130 hl (k := 4) rfl (congrArg (fun z => x4 + z) (by decide)) (Nat.le_of_ble_eq_true rfl) rfl (fun ls hl => ?_)
    refine lv_goto (tgt := 59) hx hb dX9_measureFrom_133 (by decide) ?_
    exact hk59 x1 x2 x3 (x4 + (1 : Int32)) v_wayOf _ _ _ (lv_sub hl [1, 2, 3, 4, 0] rfl) hG h
  have n136 : ∀ (k48 : Int32 → Int32 → Int32 → (Nat → Int32) → Option ((Nat → Int32))) (hk48 : ∀ (x1 : Int32) (x2 : Int32) (x3 : Int32) (v_wayOf : Nat → Int32) (H : Heap) (locs : List Loc) (ls : Array Slot), lv_has ls 5 [(0, .ref (g.2.1 50)), (1, .int x1), (2, .int x2), (3, .int x3)] → GW g s (mkS σ [] [] [(59, v_wayOf)] []) H locs → k48 x1 x2 x3 v_wayOf = some w_wayOf → Wg p l e 0 0 s m args below meth c g none (mkS σ [] [] [(59, w_wayOf)] []) H locs (F0 m 48 ls [])) (x1 : Int32) (x2 : Int32) (x3 : Int32) (v_wayOf : Nat → Int32) (H : Heap) (locs : List Loc) (ls : Array Slot), lv_has ls 5 [(0, .ref (g.2.1 50)), (1, .int x1), (2, .int x2), (3, .int x3)] → GW g s (mkS σ [] [] [(59, v_wayOf)] []) H locs → M_measureFrom_n136 k48 x1 x2 x3 v_wayOf = some w_wayOf → Wg p l e 0 0 s m args below meth c g none (mkS σ [] [] [(59, w_wayOf)] []) H locs (F0 m 136 ls []) := by
    intro k48 hk48 x1 x2 x3 v_wayOf H locs ls hl hG h
    unfold M_measureFrom_n136 at h
    refine lv_iinc (v := (x3 + (1 : Int32))) (lv' := [(3, .int (x3 + (1 : Int32))), (0, .ref (g.2.1 50)), (1, .int x1), (2, .int x2)]) hx hb dX9_measureFrom_136 hl (k := 3) rfl (congrArg (fun z => x3 + z) (by decide)) (Nat.le_of_ble_eq_true rfl) rfl (fun ls hl => ?_)
    refine lv_goto (tgt := 48) hx hb dX9_measureFrom_139 (by decide) ?_
    exact hk48 x1 x2 (x3 + (1 : Int32)) v_wayOf _ _ _ (lv_sub hl [1, 2, 3, 0] rfl) hG h
  have n59 : ∀ (k48 : Int32 → Int32 → Int32 → (Nat → Int32) → Option ((Nat → Int32))) (hk48 : ∀ (x1 : Int32) (x2 : Int32) (x3 : Int32) (v_wayOf : Nat → Int32) (H : Heap) (locs : List Loc) (ls : Array Slot), lv_has ls 5 [(0, .ref (g.2.1 50)), (1, .int x1), (2, .int x2), (3, .int x3)] → GW g s (mkS σ [] [] [(59, v_wayOf)] []) H locs → k48 x1 x2 x3 v_wayOf = some w_wayOf → Wg p l e 0 0 s m args below meth c g none (mkS σ [] [] [(59, w_wayOf)] []) H locs (F0 m 48 ls [])) (k59 : Int32 → Int32 → Int32 → Int32 → (Nat → Int32) → Option ((Nat → Int32))) (hk59 : ∀ (x1 : Int32) (x2 : Int32) (x3 : Int32) (x4 : Int32) (v_wayOf : Nat → Int32) (H : Heap) (locs : List Loc) (ls : Array Slot), lv_has ls 5 [(0, .ref (g.2.1 50)), (1, .int x1), (2, .int x2), (3, .int x3), (4, .int x4)] → GW g s (mkS σ [] [] [(59, v_wayOf)] []) H locs → k59 x1 x2 x3 x4 v_wayOf = some w_wayOf → Wg p l e 0 0 s m args below meth c g none (mkS σ [] [] [(59, w_wayOf)] []) H locs (F0 m 59 ls [])) (x1 : Int32) (x2 : Int32) (x3 : Int32) (x4 : Int32) (v_wayOf : Nat → Int32) (H : Heap) (locs : List Loc) (ls : Array Slot), lv_has ls 5 [(0, .ref (g.2.1 50)), (1, .int x1), (2, .int x2), (3, .int x3), (4, .int x4)] → GW g s (mkS σ [] [] [(59, v_wayOf)] []) H locs → M_measureFrom_n59 k48 k59 (σ.1 3203) (σ.2.2.1 54) x1 x2 x3 x4 v_wayOf = some w_wayOf → Wg p l e 0 0 s m args below meth c g none (mkS σ [] [] [(59, w_wayOf)] []) H locs (F0 m 59 ls []) := by
    intro k48 hk48 k59 hk59 x1 x2 x3 x4 v_wayOf H locs ls hl hG h
    unfold M_measureFrom_n59 at h
    refine lv_iload hx hb dX9_measureFrom_59 (lv_at hl 4 rfl) ?_
    refine lv_aload_n hx hb dX9_measureFrom_61 rfl (lv_at hl 0 rfl) ?_
    refine gx_get (v := .int (σ.1 3203)) (C := RX9) (T := TX9) (N := 44) hx hb hts mc_X9 hown hK hG (ga_50 g _) rfl 3 (by decide) hw0 rfl rfl dX9_measureFrom_62 ?_
    refine lv_icmp_ge (tgt := 136) hx hb dX9_measureFrom_65 (by decide) (fun c2 => ?_) (fun c2 => ?_)
    · have h := ite_t c2 h
      exact n136 k48 hk48 x1 x2 x3 v_wayOf _ _ _ (lv_sub hl [0, 1, 2, 3] rfl) hG h
    · have h := ite_f c2 h
      refine lv_aload_n hx hb dX9_measureFrom_68 rfl (lv_at hl 0 rfl) ?_
      refine gx_get (v := .ref (g.2.1 59)) (C := RX9) (T := TX9) (N := 44) hx hb hts mc_X9 hown hK hG (ga_50 g _) rfl 13 (by decide) hw1 rfl rfl dX9_measureFrom_69 ?_
      refine lv_bipush (v := (32 : Int32)) hx hb dX9_measureFrom_72 (by decide) ?_
      refine lv_iload_n hx hb dX9_measureFrom_74 rfl (lv_at hl 1 rfl) ?_
      refine lv_imul hx hb dX9_measureFrom_75 ?_
      refine lv_iload_n hx hb dX9_measureFrom_76 rfl (lv_at hl 3 rfl) ?_
      refine lv_iadd hx hb dX9_measureFrom_77 ?_
      obtain ⟨hg3, h⟩ := gd_some h
      refine gx_iald (f := v_wayOf) hx hb hK hG (ga_59 g _) hg3 dX9_measureFrom_78 ?_
      refine lv_iload_n hx hb dX9_measureFrom_79 rfl (lv_at hl 2 rfl) ?_
      refine lv_icmp_ne (tgt := 136) hx hb dX9_measureFrom_80 (by decide) (fun c4 => ?_) (fun c4 => ?_)
      · have h := ite_f c4 h
        exact n136 k48 hk48 x1 x2 x3 v_wayOf _ _ _ (lv_sub hl [0, 1, 2, 3] rfl) hG h
      · have h := ite_t c4 h
        refine lv_aload_n hx hb dX9_measureFrom_83 rfl (lv_at hl 0 rfl) ?_
        refine gx_get (v := .ref (g.2.1 54)) (C := RX9) (T := TX9) (N := 44) hx hb hts mc_X9 hown hK hG (ga_50 g _) rfl 4 (by decide) hw2 rfl rfl dX9_measureFrom_84 ?_
        refine lv_bipush (v := (32 : Int32)) hx hb dX9_measureFrom_87 (by decide) ?_
        refine lv_iload_n hx hb dX9_measureFrom_89 rfl (lv_at hl 3 rfl) ?_
        refine lv_imul hx hb dX9_measureFrom_90 ?_
        refine lv_iload hx hb dX9_measureFrom_91 (lv_at hl 4 rfl) ?_
        refine lv_iadd hx hb dX9_measureFrom_93 ?_
        obtain ⟨hg5, h⟩ := gd_some h
        refine gx_zald (f := (σ.2.2.1 54)) hx hb hK hG (ga_54 g _) hg5 dX9_measureFrom_94 ?_
        refine lv_if_eq (tgt := 130) hx hb dX9_measureFrom_95 (by decide) (fun c6 => ?_) (fun c6 => ?_)
        · have h := ite_t c6 h
          exact n130 k59 hk59 x1 x2 x3 x4 v_wayOf _ _ _ (lv_sub hl [0, 1, 2, 3, 4] rfl) hG h
        · have h := ite_f c6 h
          refine lv_aload_n hx hb dX9_measureFrom_98 rfl (lv_at hl 0 rfl) ?_
          refine gx_get (v := .ref (g.2.1 59)) (C := RX9) (T := TX9) (N := 44) hx hb hts mc_X9 hown hK hG (ga_50 g _) rfl 13 (by decide) hw1 rfl rfl dX9_measureFrom_99 ?_
          refine lv_bipush (v := (32 : Int32)) hx hb dX9_measureFrom_102 (by decide) ?_
          refine lv_iload_n hx hb dX9_measureFrom_104 rfl (lv_at hl 1 rfl) ?_
          refine lv_imul hx hb dX9_measureFrom_105 ?_
          refine lv_iload hx hb dX9_measureFrom_106 (lv_at hl 4 rfl) ?_
          refine lv_iadd hx hb dX9_measureFrom_108 ?_
          obtain ⟨hg7, h⟩ := gd_some h
          refine gx_iald (f := v_wayOf) hx hb hK hG (ga_59 g _) hg7 dX9_measureFrom_109 ?_
          refine lv_bipush (v := (99 : Int32)) hx hb dX9_measureFrom_110 (by decide) ?_
          refine lv_icmp_ne (tgt := 130) hx hb dX9_measureFrom_112 (by decide) (fun c8 => ?_) (fun c8 => ?_)
          · have h := ite_f c8 h
            exact n130 k59 hk59 x1 x2 x3 x4 v_wayOf _ _ _ (lv_sub hl [0, 1, 2, 3, 4] rfl) hG h
          · have h := ite_t c8 h
            refine lv_aload_n hx hb dX9_measureFrom_115 rfl (lv_at hl 0 rfl) ?_
            refine gx_get (v := .ref (g.2.1 59)) (C := RX9) (T := TX9) (N := 44) hx hb hts mc_X9 hown hK hG (ga_50 g _) rfl 13 (by decide) hw1 rfl rfl dX9_measureFrom_116 ?_
            refine lv_bipush (v := (32 : Int32)) hx hb dX9_measureFrom_119 (by decide) ?_
            refine lv_iload_n hx hb dX9_measureFrom_121 rfl (lv_at hl 1 rfl) ?_
            refine lv_imul hx hb dX9_measureFrom_122 ?_
            refine lv_iload hx hb dX9_measureFrom_123 (lv_at hl 4 rfl) ?_
            refine lv_iadd hx hb dX9_measureFrom_125 ?_
            refine lv_iload_n hx hb dX9_measureFrom_126 rfl (lv_at hl 2 rfl) ?_
            refine lv_iconst (v := (1 : Int32)) hx hb dX9_measureFrom_127 (by decide) ?_
            refine lv_iadd hx hb dX9_measureFrom_128 ?_
            refine gx_iast (σ' := (mkS σ [] [] [(59, (upd v_wayOf ((((32 : Int32) * x1) + x4).toNatClampNeg) (x2 + (1 : Int32))))] [])) (f := v_wayOf) hx hb hK hG (ga_59 g _) hg7 ((gs_59 g _ _).trans (congrArg (g_cells g) (mk_c 0 rfl rfl))) dX9_measureFrom_129 (fun H locs hG => ?_)
            exact n130 k59 hk59 x1 x2 x3 x4 (upd v_wayOf ((((32 : Int32) * x1) + x4).toNatClampNeg) (x2 + (1 : Int32))) _ _ _ (lv_sub hl [0, 1, 2, 3, 4] rfl) hG h
  have l59 : ∀ (k48 : Int32 → Int32 → Int32 → (Nat → Int32) → Option ((Nat → Int32))) (hk48 : ∀ (x1 : Int32) (x2 : Int32) (x3 : Int32) (v_wayOf : Nat → Int32) (H : Heap) (locs : List Loc) (ls : Array Slot), lv_has ls 5 [(0, .ref (g.2.1 50)), (1, .int x1), (2, .int x2), (3, .int x3)] → GW g s (mkS σ [] [] [(59, v_wayOf)] []) H locs → k48 x1 x2 x3 v_wayOf = some w_wayOf → Wg p l e 0 0 s m args below meth c g none (mkS σ [] [] [(59, w_wayOf)] []) H locs (F0 m 48 ls [])) (F : Nat) (x1 : Int32) (x2 : Int32) (x3 : Int32) (x4 : Int32) (v_wayOf : Nat → Int32) (H : Heap) (locs : List Loc) (ls : Array Slot), lv_has ls 5 [(0, .ref (g.2.1 50)), (1, .int x1), (2, .int x2), (3, .int x3), (4, .int x4)] → GW g s (mkS σ [] [] [(59, v_wayOf)] []) H locs → M_measureFrom_l59 k48 (σ.1 3203) (σ.2.2.1 54) F x1 x2 x3 x4 v_wayOf = some w_wayOf → Wg p l e 0 0 s m args below meth c g none (mkS σ [] [] [(59, w_wayOf)] []) H locs (F0 m 59 ls []) := by
    intro k48 hk48 F
    induction F with
    | zero => intro x1 x2 x3 x4 v_wayOf H locs ls hl hG h; exact no_some h
    | succ F ih => intro x1 x2 x3 x4 v_wayOf H locs ls hl hG h; exact n59 k48 hk48 (fun x1 x2 x3 x4 v_wayOf => M_measureFrom_l59 k48 (σ.1 3203) (σ.2.2.1 54) F x1 x2 x3 x4 v_wayOf) ih x1 x2 x3 x4 v_wayOf H locs ls hl hG h
  have n142 : ∀ (k38 : Int32 → Int32 → (Nat → Int32) → Option ((Nat → Int32))) (hk38 : ∀ (x1 : Int32) (x2 : Int32) (v_wayOf : Nat → Int32) (H : Heap) (locs : List Loc) (ls : Array Slot), lv_has ls 5 [(0, .ref (g.2.1 50)), (1, .int x1), (2, .int x2)] → GW g s (mkS σ [] [] [(59, v_wayOf)] []) H locs → k38 x1 x2 v_wayOf = some w_wayOf → Wg p l e 0 0 s m args below meth c g none (mkS σ [] [] [(59, w_wayOf)] []) H locs (F0 m 38 ls [])) (x1 : Int32) (x2 : Int32) (v_wayOf : Nat → Int32) (H : Heap) (locs : List Loc) (ls : Array Slot), lv_has ls 5 [(0, .ref (g.2.1 50)), (1, .int x1), (2, .int x2)] → GW g s (mkS σ [] [] [(59, v_wayOf)] []) H locs → M_measureFrom_n142 k38 x1 x2 v_wayOf = some w_wayOf → Wg p l e 0 0 s m args below meth c g none (mkS σ [] [] [(59, w_wayOf)] []) H locs (F0 m 142 ls []) := by
    intro k38 hk38 x1 x2 v_wayOf H locs ls hl hG h
    unfold M_measureFrom_n142 at h
    refine lv_iinc (v := (x2 + (1 : Int32))) (lv' := [(2, .int (x2 + (1 : Int32))), (0, .ref (g.2.1 50)), (1, .int x1)]) hx hb dX9_measureFrom_142 hl (k := 2) rfl (congrArg (fun z => x2 + z) (by decide)) (Nat.le_of_ble_eq_true rfl) rfl (fun ls hl => ?_)
    refine lv_goto (tgt := 38) hx hb dX9_measureFrom_145 (by decide) ?_
    exact hk38 x1 (x2 + (1 : Int32)) v_wayOf _ _ _ (lv_sub hl [1, 2, 0] rfl) hG h
  have n48 : ∀ (k38 : Int32 → Int32 → (Nat → Int32) → Option ((Nat → Int32))) (hk38 : ∀ (x1 : Int32) (x2 : Int32) (v_wayOf : Nat → Int32) (H : Heap) (locs : List Loc) (ls : Array Slot), lv_has ls 5 [(0, .ref (g.2.1 50)), (1, .int x1), (2, .int x2)] → GW g s (mkS σ [] [] [(59, v_wayOf)] []) H locs → k38 x1 x2 v_wayOf = some w_wayOf → Wg p l e 0 0 s m args below meth c g none (mkS σ [] [] [(59, w_wayOf)] []) H locs (F0 m 38 ls [])) (k48 : Int32 → Int32 → Int32 → (Nat → Int32) → Option ((Nat → Int32))) (hk48 : ∀ (x1 : Int32) (x2 : Int32) (x3 : Int32) (v_wayOf : Nat → Int32) (H : Heap) (locs : List Loc) (ls : Array Slot), lv_has ls 5 [(0, .ref (g.2.1 50)), (1, .int x1), (2, .int x2), (3, .int x3)] → GW g s (mkS σ [] [] [(59, v_wayOf)] []) H locs → k48 x1 x2 x3 v_wayOf = some w_wayOf → Wg p l e 0 0 s m args below meth c g none (mkS σ [] [] [(59, w_wayOf)] []) H locs (F0 m 48 ls [])) (x1 : Int32) (x2 : Int32) (x3 : Int32) (v_wayOf : Nat → Int32) (H : Heap) (locs : List Loc) (ls : Array Slot), lv_has ls 5 [(0, .ref (g.2.1 50)), (1, .int x1), (2, .int x2), (3, .int x3)] → GW g s (mkS σ [] [] [(59, v_wayOf)] []) H locs → M_measureFrom_n48 k38 k48 (σ.1 3203) (σ.2.2.1 54) x1 x2 x3 v_wayOf = some w_wayOf → Wg p l e 0 0 s m args below meth c g none (mkS σ [] [] [(59, w_wayOf)] []) H locs (F0 m 48 ls []) := by
    intro k38 hk38 k48 hk48 x1 x2 x3 v_wayOf H locs ls hl hG h
    unfold M_measureFrom_n48 at h
    refine lv_iload_n hx hb dX9_measureFrom_48 rfl (lv_at hl 3 rfl) ?_
    refine lv_aload_n hx hb dX9_measureFrom_49 rfl (lv_at hl 0 rfl) ?_
    refine gx_get (v := .int (σ.1 3203)) (C := RX9) (T := TX9) (N := 44) hx hb hts mc_X9 hown hK hG (ga_50 g _) rfl 3 (by decide) hw0 rfl rfl dX9_measureFrom_50 ?_
    refine lv_icmp_ge (tgt := 142) hx hb dX9_measureFrom_53 (by decide) (fun c9 => ?_) (fun c9 => ?_)
    · have h := ite_t c9 h
      exact n142 k38 hk38 x1 x2 v_wayOf _ _ _ (lv_sub hl [0, 1, 2] rfl) hG h
    · have h := ite_f c9 h
      refine lv_iconst (v := (0 : Int32)) hx hb dX9_measureFrom_56 (by decide) ?_
      refine lv_istore (lv' := [(4, .int (0 : Int32)), (0, .ref (g.2.1 50)), (1, .int x1), (2, .int x2), (3, .int x3)]) hx hb dX9_measureFrom_57 hl (Nat.le_of_ble_eq_true rfl) rfl (fun ls hl => ?_)
      exact l59 k48 hk48 FUEL x1 x2 x3 (0 : Int32) v_wayOf _ _ _ (lv_sub hl [1, 2, 3, 4, 0] rfl) hG h
  have l48 : ∀ (k38 : Int32 → Int32 → (Nat → Int32) → Option ((Nat → Int32))) (hk38 : ∀ (x1 : Int32) (x2 : Int32) (v_wayOf : Nat → Int32) (H : Heap) (locs : List Loc) (ls : Array Slot), lv_has ls 5 [(0, .ref (g.2.1 50)), (1, .int x1), (2, .int x2)] → GW g s (mkS σ [] [] [(59, v_wayOf)] []) H locs → k38 x1 x2 v_wayOf = some w_wayOf → Wg p l e 0 0 s m args below meth c g none (mkS σ [] [] [(59, w_wayOf)] []) H locs (F0 m 38 ls [])) (F : Nat) (x1 : Int32) (x2 : Int32) (x3 : Int32) (v_wayOf : Nat → Int32) (H : Heap) (locs : List Loc) (ls : Array Slot), lv_has ls 5 [(0, .ref (g.2.1 50)), (1, .int x1), (2, .int x2), (3, .int x3)] → GW g s (mkS σ [] [] [(59, v_wayOf)] []) H locs → M_measureFrom_l48 k38 (σ.1 3203) (σ.2.2.1 54) F x1 x2 x3 v_wayOf = some w_wayOf → Wg p l e 0 0 s m args below meth c g none (mkS σ [] [] [(59, w_wayOf)] []) H locs (F0 m 48 ls []) := by
    intro k38 hk38 F
    induction F with
    | zero => intro x1 x2 x3 v_wayOf H locs ls hl hG h; exact no_some h
    | succ F ih => intro x1 x2 x3 v_wayOf H locs ls hl hG h; exact n48 k38 hk38 (fun x1 x2 x3 v_wayOf => M_measureFrom_l48 k38 (σ.1 3203) (σ.2.2.1 54) F x1 x2 x3 v_wayOf) ih x1 x2 x3 v_wayOf H locs ls hl hG h
  have n148 : ∀ (v_wayOf : Nat → Int32) (H : Heap) (locs : List Loc) (ls : Array Slot), lv_has ls 5 [] → GW g s (mkS σ [] [] [(59, v_wayOf)] []) H locs → M_measureFrom_n148 v_wayOf = some w_wayOf → Wg p l e 0 0 s m args below meth c g none (mkS σ [] [] [(59, w_wayOf)] []) H locs (F0 m 148 ls []) := by
    intro v_wayOf H locs ls hl hG h
    unfold M_measureFrom_n148 at h
    cases h
    exact gx_vret hx hb hr hlocks hG dX9_measureFrom_148
  have n38 : ∀ (k38 : Int32 → Int32 → (Nat → Int32) → Option ((Nat → Int32))) (hk38 : ∀ (x1 : Int32) (x2 : Int32) (v_wayOf : Nat → Int32) (H : Heap) (locs : List Loc) (ls : Array Slot), lv_has ls 5 [(0, .ref (g.2.1 50)), (1, .int x1), (2, .int x2)] → GW g s (mkS σ [] [] [(59, v_wayOf)] []) H locs → k38 x1 x2 v_wayOf = some w_wayOf → Wg p l e 0 0 s m args below meth c g none (mkS σ [] [] [(59, w_wayOf)] []) H locs (F0 m 38 ls [])) (x1 : Int32) (x2 : Int32) (v_wayOf : Nat → Int32) (H : Heap) (locs : List Loc) (ls : Array Slot), lv_has ls 5 [(0, .ref (g.2.1 50)), (1, .int x1), (2, .int x2)] → GW g s (mkS σ [] [] [(59, v_wayOf)] []) H locs → M_measureFrom_n38 k38 (σ.1 3203) (σ.2.2.1 54) x1 x2 v_wayOf = some w_wayOf → Wg p l e 0 0 s m args below meth c g none (mkS σ [] [] [(59, w_wayOf)] []) H locs (F0 m 38 ls []) := by
    intro k38 hk38 x1 x2 v_wayOf H locs ls hl hG h
    unfold M_measureFrom_n38 at h
    refine lv_iload_n hx hb dX9_measureFrom_38 rfl (lv_at hl 2 rfl) ?_
    refine lv_aload_n hx hb dX9_measureFrom_39 rfl (lv_at hl 0 rfl) ?_
    refine gx_get (v := .int (σ.1 3203)) (C := RX9) (T := TX9) (N := 44) hx hb hts mc_X9 hown hK hG (ga_50 g _) rfl 3 (by decide) hw0 rfl rfl dX9_measureFrom_40 ?_
    refine lv_icmp_ge (tgt := 148) hx hb dX9_measureFrom_43 (by decide) (fun c10 => ?_) (fun c10 => ?_)
    · have h := ite_t c10 h
      exact n148 v_wayOf _ _ _ (lv_sub hl [] rfl) hG h
    · have h := ite_f c10 h
      refine lv_iconst (v := (0 : Int32)) hx hb dX9_measureFrom_46 (by decide) ?_
      refine lv_istore_n (lv' := [(3, .int (0 : Int32)), (0, .ref (g.2.1 50)), (1, .int x1), (2, .int x2)]) hx hb dX9_measureFrom_47 rfl hl (Nat.le_of_ble_eq_true rfl) rfl (fun ls hl => ?_)
      exact l48 k38 hk38 FUEL x1 x2 (0 : Int32) v_wayOf _ _ _ (lv_sub hl [1, 2, 3, 0] rfl) hG h
  have l38 : ∀  (F : Nat) (x1 : Int32) (x2 : Int32) (v_wayOf : Nat → Int32) (H : Heap) (locs : List Loc) (ls : Array Slot), lv_has ls 5 [(0, .ref (g.2.1 50)), (1, .int x1), (2, .int x2)] → GW g s (mkS σ [] [] [(59, v_wayOf)] []) H locs → M_measureFrom_l38 (σ.1 3203) (σ.2.2.1 54) F x1 x2 v_wayOf = some w_wayOf → Wg p l e 0 0 s m args below meth c g none (mkS σ [] [] [(59, w_wayOf)] []) H locs (F0 m 38 ls []) := by
    intro F
    induction F with
    | zero => intro x1 x2 v_wayOf H locs ls hl hG h; exact no_some h
    | succ F ih => intro x1 x2 v_wayOf H locs ls hl hG h; exact n38 (fun x1 x2 v_wayOf => M_measureFrom_l38 (σ.1 3203) (σ.2.2.1 54) F x1 x2 v_wayOf) ih x1 x2 v_wayOf H locs ls hl hG h
  have n36 : ∀ (x1 : Int32) (v_wayOf : Nat → Int32) (H : Heap) (locs : List Loc) (ls : Array Slot), lv_has ls 5 [(0, .ref (g.2.1 50)), (1, .int x1)] → GW g s (mkS σ [] [] [(59, v_wayOf)] []) H locs → M_measureFrom_n36 (σ.1 3203) (σ.2.2.1 54) x1 v_wayOf = some w_wayOf → Wg p l e 0 0 s m args below meth c g none (mkS σ [] [] [(59, w_wayOf)] []) H locs (F0 m 36 ls []) := by
    intro x1 v_wayOf H locs ls hl hG h
    unfold M_measureFrom_n36 at h
    refine lv_iconst (v := (0 : Int32)) hx hb dX9_measureFrom_36 (by decide) ?_
    refine lv_istore_n (lv' := [(2, .int (0 : Int32)), (0, .ref (g.2.1 50)), (1, .int x1)]) hx hb dX9_measureFrom_37 rfl hl (Nat.le_of_ble_eq_true rfl) rfl (fun ls hl => ?_)
    exact l38 FUEL x1 (0 : Int32) v_wayOf _ _ _ (lv_sub hl [1, 2, 0] rfl) hG h
  have n2 : ∀ (k2 : Int32 → Int32 → (Nat → Int32) → Option ((Nat → Int32))) (hk2 : ∀ (x1 : Int32) (x2 : Int32) (v_wayOf : Nat → Int32) (H : Heap) (locs : List Loc) (ls : Array Slot), lv_has ls 5 [(0, .ref (g.2.1 50)), (1, .int x1), (2, .int x2)] → GW g s (mkS σ [] [] [(59, v_wayOf)] []) H locs → k2 x1 x2 v_wayOf = some w_wayOf → Wg p l e 0 0 s m args below meth c g none (mkS σ [] [] [(59, w_wayOf)] []) H locs (F0 m 2 ls [])) (x1 : Int32) (x2 : Int32) (v_wayOf : Nat → Int32) (H : Heap) (locs : List Loc) (ls : Array Slot), lv_has ls 5 [(0, .ref (g.2.1 50)), (1, .int x1), (2, .int x2)] → GW g s (mkS σ [] [] [(59, v_wayOf)] []) H locs → M_measureFrom_n2 k2 (σ.1 3203) (σ.2.2.1 54) x1 x2 v_wayOf = some w_wayOf → Wg p l e 0 0 s m args below meth c g none (mkS σ [] [] [(59, w_wayOf)] []) H locs (F0 m 2 ls []) := by
    intro k2 hk2 x1 x2 v_wayOf H locs ls hl hG h
    unfold M_measureFrom_n2 at h
    refine lv_iload_n hx hb dX9_measureFrom_2 rfl (lv_at hl 2 rfl) ?_
    refine lv_bipush (v := (32 : Int32)) hx hb dX9_measureFrom_3 (by decide) ?_
    refine lv_icmp_ge (tgt := 36) hx hb dX9_measureFrom_5 (by decide) (fun c11 => ?_) (fun c11 => ?_)
    · have h := ite_t c11 h
      exact n36 x1 v_wayOf _ _ _ (lv_sub hl [0, 1] rfl) hG h
    · have h := ite_f c11 h
      refine lv_aload_n hx hb dX9_measureFrom_8 rfl (lv_at hl 0 rfl) ?_
      refine gx_get (v := .ref (g.2.1 59)) (C := RX9) (T := TX9) (N := 44) hx hb hts mc_X9 hown hK hG (ga_50 g _) rfl 13 (by decide) hw1 rfl rfl dX9_measureFrom_9 ?_
      refine lv_bipush (v := (32 : Int32)) hx hb dX9_measureFrom_12 (by decide) ?_
      refine lv_iload_n hx hb dX9_measureFrom_14 rfl (lv_at hl 1 rfl) ?_
      refine lv_imul hx hb dX9_measureFrom_15 ?_
      refine lv_iload_n hx hb dX9_measureFrom_16 rfl (lv_at hl 2 rfl) ?_
      refine lv_iadd hx hb dX9_measureFrom_17 ?_
      refine lv_iload_n hx hb dX9_measureFrom_18 rfl (lv_at hl 2 rfl) ?_
      refine lv_iload_n hx hb dX9_measureFrom_19 rfl (lv_at hl 1 rfl) ?_
      refine lv_icmp_ne (tgt := 27) hx hb dX9_measureFrom_20 (by decide) (fun c12 => ?_) (fun c12 => ?_)
      · have h := ite_f c12 h
        refine lv_bipush (v := (99 : Int32)) hx hb dX9_measureFrom_27 (by decide) ?_
        exact n29 k2 hk2 x1 x2 (((32 : Int32) * x1) + x2) (99 : Int32) v_wayOf _ _ _ (lv_sub hl [0, 1, 2] rfl) hG h
      · have h := ite_t c12 h
        refine lv_iconst (v := (0 : Int32)) hx hb dX9_measureFrom_23 (by decide) ?_
        refine lv_goto (tgt := 29) hx hb dX9_measureFrom_24 (by decide) ?_
        exact n29 k2 hk2 x1 x2 (((32 : Int32) * x1) + x2) (0 : Int32) v_wayOf _ _ _ (lv_sub hl [0, 1, 2] rfl) hG h
  have l2 : ∀  (F : Nat) (x1 : Int32) (x2 : Int32) (v_wayOf : Nat → Int32) (H : Heap) (locs : List Loc) (ls : Array Slot), lv_has ls 5 [(0, .ref (g.2.1 50)), (1, .int x1), (2, .int x2)] → GW g s (mkS σ [] [] [(59, v_wayOf)] []) H locs → M_measureFrom_l2 (σ.1 3203) (σ.2.2.1 54) F x1 x2 v_wayOf = some w_wayOf → Wg p l e 0 0 s m args below meth c g none (mkS σ [] [] [(59, w_wayOf)] []) H locs (F0 m 2 ls []) := by
    intro F
    induction F with
    | zero => intro x1 x2 v_wayOf H locs ls hl hG h; exact no_some h
    | succ F ih => intro x1 x2 v_wayOf H locs ls hl hG h; exact n2 (fun x1 x2 v_wayOf => M_measureFrom_l2 (σ.1 3203) (σ.2.2.1 54) F x1 x2 v_wayOf) ih x1 x2 v_wayOf H locs ls hl hG h
  refine lv_iconst (v := (0 : Int32)) hx hb dX9_measureFrom_0 (by decide) ?_
  refine lv_istore_n (lv' := [(2, .int (0 : Int32)), (0, .ref (g.2.1 50)), (1, .int x1)]) hx hb dX9_measureFrom_1 rfl hl (Nat.le_of_ble_eq_true rfl) rfl (fun ls hl => ?_)
  exact l2 FUEL x1 (0 : Int32) (σ.2.2.1 59) _ _ _ (lv_sub hl [1, 2, 0] rfl) hG h

set_option maxHeartbeats 4000000 in
set_option maxRecDepth 100000 in
theorem c_M_measure (l : Launch) (g : GC) (σ : St) (w_far : Int32) (w_heaps : Int32) (w_isMeasured : Int32) (w_wayOf : Nat → Int32) (h : M_measure (σ.1 3214) (σ.1 3215) (σ.1 3212) (σ.1 3203) (σ.2.2.1 54) (σ.2.2.1 59) = some (w_far, w_heaps, w_isMeasured, w_wayOf)) : Cn l g yX9_measure (Cond.code yX9_measure cX9_measure 4 none :: wG) 1 24 [.ref (g.2.1 50)] σ none (mkS σ [(3214, w_far), (3215, w_heaps), (3212, w_isMeasured)] [] [(59, w_wayOf)] []) := by
  unfold Cn
  refine Met.ofW (cc := cX9_measure) (maxL := 4) (ret := none) (by decide) rfl ?_
  intro p e s m args below meth c s₁ B hml hv
  obtain ⟨hargs, hP0, hK⟩ := hv
  have hx := B.exec
  have hb := B.bytes
  have hr := B.returns
  have hts : ∀ w ∈ wG, w.before args s = true := fun w h => atoms_spec (ws := (Cond.code yX9_measure cX9_measure 4 none :: wG)) B.pre w (List.mem_cons_of_mem _ h)
  have hown : s.vm.findClass RX9 = some m.cls := findClass_of_methodNamed B.named
  have hlocks := B.notSynchronized
  have hS9 : CallFix p m c cX9_measure 4 s args wG RX9 := ⟨hx, hb, hml, hown, hts⟩
  have hw0 := hts _ mw_4_153
  have hw1 := hts _ mw_4_152
  have hw2 := hts _ mw_4_154
  have hw3 := hts _ mw_4_142
  have hw4 := hts _ mw_4_151
  have hf9 : entryFrame m args 4 = _ := (congrArg (fun a => entryFrame m a 4) hargs).trans (lg_entry_eq m [.ref (g.2.1 50)] 4)
  show Wg p l e 1 24 s m args below meth c g none (mkS σ [(3214, w_far), (3215, w_heaps), (3212, w_isMeasured)] [] [(59, w_wayOf)] []) s.heap [] (entryFrame m args 4)
  rw [hf9]
  have hl := lv_entry ([.ref (g.2.1 50)]) (n := 4) (Nat.le_of_ble_eq_true rfl)
  generalize (lg_sl ([.ref (g.2.1 50)]) ++ List.replicate (4 - (lg_sl ([.ref (g.2.1 50)])).length) Slot.unset).toArray = ls at hl ⊢
  have hl : lv_has ls 4 [(0, .ref (g.2.1 50))] := hl
  have hG : GW g s σ s.heap [] := ⟨hP0, va_S.rf⟩
  have hG : GW g s (mkS σ [(3214, (σ.1 3214)), (3215, (σ.1 3215)), (3212, (σ.1 3212))] [] [(59, (σ.2.2.1 59))] []) s.heap [] := GW_self [3214, 3215, 3212] [] [59] [] hG
  unfold M_measure at h
  have n120 : ∀ (k42 : Int32 → Int32 → Int32 → Int32 → Int32 → Int32 → (Nat → Int32) → Option (Int32 × Int32 × Int32 × (Nat → Int32))) (hk42 : ∀ (x1 : Int32) (x2 : Int32) (x3 : Int32) (v_far : Int32) (v_heaps : Int32) (v_isMeasured : Int32) (v_wayOf : Nat → Int32) (H : Heap) (locs : List Loc) (ls : Array Slot), lv_has ls 4 [(0, .ref (g.2.1 50)), (1, .int x1), (2, .int x2), (3, .int x3)] → GW g s (mkS σ [(3214, v_far), (3215, v_heaps), (3212, v_isMeasured)] [] [(59, v_wayOf)] []) H locs → k42 x1 x2 x3 v_far v_heaps v_isMeasured v_wayOf = some (w_far, w_heaps, w_isMeasured, w_wayOf) → Wg p l e 1 24 s m args below meth c g none (mkS σ [(3214, w_far), (3215, w_heaps), (3212, w_isMeasured)] [] [(59, w_wayOf)] []) H locs (F0 m 42 ls [])) (x1 : Int32) (x3 : Int32) (t0 : Int32) (v_far : Int32) (v_heaps : Int32) (v_isMeasured : Int32) (v_wayOf : Nat → Int32) (H : Heap) (locs : List Loc) (ls : Array Slot), lv_has ls 4 [(0, .ref (g.2.1 50)), (1, .int x1), (3, .int x3)] → GW g s (mkS σ [(3214, v_far), (3215, v_heaps), (3212, v_isMeasured)] [] [(59, v_wayOf)] []) H locs → M_measure_n120 k42 x1 x3 t0 v_far v_heaps v_isMeasured v_wayOf = some (w_far, w_heaps, w_isMeasured, w_wayOf) → Wg p l e 1 24 s m args below meth c g none (mkS σ [(3214, w_far), (3215, w_heaps), (3212, w_isMeasured)] [] [(59, w_wayOf)] []) H locs (F0 m 120 ls [.int t0]) := by
    intro k42 hk42 x1 x3 t0 v_far v_heaps v_isMeasured v_wayOf H locs ls hl hG h
    unfold M_measure_n120 at h
    refine lv_istore_n (lv' := [(2, .int t0), (0, .ref (g.2.1 50)), (1, .int x1), (3, .int x3)]) hx hb dX9_measure_120 rfl hl (Nat.le_of_ble_eq_true rfl) rfl (fun ls hl => ?_)
    refine lv_iinc (v := (x3 + (1 : Int32))) (lv' := [(3, .int (x3 + (1 : Int32))), (2, .int t0), (0, .ref (g.2.1 50)), (1, .int x1)]) hx hb dX9_measure_121 hl (k := 3) rfl (congrArg (fun z => x3 + z) (by decide)) (Nat.le_of_ble_eq_true rfl) rfl (fun ls hl => ?_)
    refine lv_goto (tgt := 42) hx hb dX9_measure_124 (by decide) ?_
    exact hk42 x1 t0 (x3 + (1 : Int32)) v_far v_heaps v_isMeasured v_wayOf _ _ _ (lv_sub hl [2, 3, 1, 0] rfl) hG h
  have n115 : ∀ (k42 : Int32 → Int32 → Int32 → Int32 → Int32 → Int32 → (Nat → Int32) → Option (Int32 × Int32 × Int32 × (Nat → Int32))) (hk42 : ∀ (x1 : Int32) (x2 : Int32) (x3 : Int32) (v_far : Int32) (v_heaps : Int32) (v_isMeasured : Int32) (v_wayOf : Nat → Int32) (H : Heap) (locs : List Loc) (ls : Array Slot), lv_has ls 4 [(0, .ref (g.2.1 50)), (1, .int x1), (2, .int x2), (3, .int x3)] → GW g s (mkS σ [(3214, v_far), (3215, v_heaps), (3212, v_isMeasured)] [] [(59, v_wayOf)] []) H locs → k42 x1 x2 x3 v_far v_heaps v_isMeasured v_wayOf = some (w_far, w_heaps, w_isMeasured, w_wayOf) → Wg p l e 1 24 s m args below meth c g none (mkS σ [(3214, w_far), (3215, w_heaps), (3212, w_isMeasured)] [] [(59, w_wayOf)] []) H locs (F0 m 42 ls [])) (x1 : Int32) (x3 : Int32) (v_far : Int32) (v_heaps : Int32) (v_isMeasured : Int32) (v_wayOf : Nat → Int32) (H : Heap) (locs : List Loc) (ls : Array Slot), lv_has ls 4 [(0, .ref (g.2.1 50)), (1, .int x1), (3, .int x3)] → GW g s (mkS σ [(3214, v_far), (3215, v_heaps), (3212, v_isMeasured)] [] [(59, v_wayOf)] []) H locs → M_measure_n115 k42 x1 x3 v_far v_heaps v_isMeasured v_wayOf = some (w_far, w_heaps, w_isMeasured, w_wayOf) → Wg p l e 1 24 s m args below meth c g none (mkS σ [(3214, w_far), (3215, w_heaps), (3212, w_isMeasured)] [] [(59, w_wayOf)] []) H locs (F0 m 115 ls []) := by
    intro k42 hk42 x1 x3 v_far v_heaps v_isMeasured v_wayOf H locs ls hl hG h
    unfold M_measure_n115 at h
    refine lv_iconst (v := (1 : Int32)) hx hb dX9_measure_115 (by decide) ?_
    refine lv_goto (tgt := 120) hx hb dX9_measure_116 (by decide) ?_
    exact n120 k42 hk42 x1 x3 (1 : Int32) v_far v_heaps v_isMeasured v_wayOf _ _ _ (lv_sub hl [0, 1, 2] rfl) hG h
  have n119 : ∀ (k42 : Int32 → Int32 → Int32 → Int32 → Int32 → Int32 → (Nat → Int32) → Option (Int32 × Int32 × Int32 × (Nat → Int32))) (hk42 : ∀ (x1 : Int32) (x2 : Int32) (x3 : Int32) (v_far : Int32) (v_heaps : Int32) (v_isMeasured : Int32) (v_wayOf : Nat → Int32) (H : Heap) (locs : List Loc) (ls : Array Slot), lv_has ls 4 [(0, .ref (g.2.1 50)), (1, .int x1), (2, .int x2), (3, .int x3)] → GW g s (mkS σ [(3214, v_far), (3215, v_heaps), (3212, v_isMeasured)] [] [(59, v_wayOf)] []) H locs → k42 x1 x2 x3 v_far v_heaps v_isMeasured v_wayOf = some (w_far, w_heaps, w_isMeasured, w_wayOf) → Wg p l e 1 24 s m args below meth c g none (mkS σ [(3214, w_far), (3215, w_heaps), (3212, w_isMeasured)] [] [(59, w_wayOf)] []) H locs (F0 m 42 ls [])) (x1 : Int32) (x3 : Int32) (v_far : Int32) (v_heaps : Int32) (v_isMeasured : Int32) (v_wayOf : Nat → Int32) (H : Heap) (locs : List Loc) (ls : Array Slot), lv_has ls 4 [(0, .ref (g.2.1 50)), (1, .int x1), (3, .int x3)] → GW g s (mkS σ [(3214, v_far), (3215, v_heaps), (3212, v_isMeasured)] [] [(59, v_wayOf)] []) H locs → M_measure_n119 k42 x1 x3 v_far v_heaps v_isMeasured v_wayOf = some (w_far, w_heaps, w_isMeasured, w_wayOf) → Wg p l e 1 24 s m args below meth c g none (mkS σ [(3214, w_far), (3215, w_heaps), (3212, w_isMeasured)] [] [(59, w_wayOf)] []) H locs (F0 m 119 ls []) := by
    intro k42 hk42 x1 x3 v_far v_heaps v_isMeasured v_wayOf H locs ls hl hG h
    unfold M_measure_n119 at h
    refine lv_iconst (v := (0 : Int32)) hx hb dX9_measure_119 (by decide) ?_
    exact n120 k42 hk42 x1 x3 (0 : Int32) v_far v_heaps v_isMeasured v_wayOf _ _ _ (lv_sub hl [0, 1, 2] rfl) hG h
  have n87 : ∀ (k42 : Int32 → Int32 → Int32 → Int32 → Int32 → Int32 → (Nat → Int32) → Option (Int32 × Int32 × Int32 × (Nat → Int32))) (hk42 : ∀ (x1 : Int32) (x2 : Int32) (x3 : Int32) (v_far : Int32) (v_heaps : Int32) (v_isMeasured : Int32) (v_wayOf : Nat → Int32) (H : Heap) (locs : List Loc) (ls : Array Slot), lv_has ls 4 [(0, .ref (g.2.1 50)), (1, .int x1), (2, .int x2), (3, .int x3)] → GW g s (mkS σ [(3214, v_far), (3215, v_heaps), (3212, v_isMeasured)] [] [(59, v_wayOf)] []) H locs → k42 x1 x2 x3 v_far v_heaps v_isMeasured v_wayOf = some (w_far, w_heaps, w_isMeasured, w_wayOf) → Wg p l e 1 24 s m args below meth c g none (mkS σ [(3214, w_far), (3215, w_heaps), (3212, w_isMeasured)] [] [(59, w_wayOf)] []) H locs (F0 m 42 ls [])) (x1 : Int32) (x2 : Int32) (x3 : Int32) (t1 : Int32) (v_far : Int32) (v_heaps : Int32) (v_isMeasured : Int32) (v_wayOf : Nat → Int32) (H : Heap) (locs : List Loc) (ls : Array Slot), lv_has ls 4 [(0, .ref (g.2.1 50)), (1, .int x1), (2, .int x2), (3, .int x3)] → GW g s (mkS σ [(3214, v_far), (3215, v_heaps), (3212, v_isMeasured)] [] [(59, v_wayOf)] []) H locs → M_measure_n87 k42 x1 x2 x3 t1 v_far v_heaps v_isMeasured v_wayOf = some (w_far, w_heaps, w_isMeasured, w_wayOf) → Wg p l e 1 24 s m args below meth c g none (mkS σ [(3214, w_far), (3215, w_heaps), (3212, w_isMeasured)] [] [(59, w_wayOf)] []) H locs (F0 m 87 ls [.int t1, .ref (g.2.1 50)]) := by
    intro k42 hk42 x1 x2 x3 t1 v_far v_heaps v_isMeasured v_wayOf H locs ls hl hG h
    unfold M_measure_n87 at h
    refine gx_put (σ' := (mkS σ [(3214, t1), (3215, v_heaps), (3212, v_isMeasured)] [] [(59, v_wayOf)] [])) (C := RX9) (T := TX9) (N := 44) hx hb hts mc_X9 tyX9 tyX9_ok nmX9 hown hK hG (ga_50 g _) rfl 14 (by decide) hw0 rfl rfl rfl rfl (Nat.le_of_ble_eq_true rfl) ((gf_3214 g _ _).trans (congrArg (g_cells g) (mk_a 0 rfl rfl))) dX9_measure_87 (fun H locs hG => ?_)
    refine lv_iload_n hx hb dX9_measure_90 rfl (lv_at hl 2 rfl) ?_
    refine lv_if_eq (tgt := 119) hx hb dX9_measure_91 (by decide) (fun c1 => ?_) (fun c1 => ?_)
    · have h := ite_t c1 h
      exact n119 k42 hk42 x1 x3 t1 v_heaps v_isMeasured v_wayOf _ _ _ (lv_sub hl [0, 1, 3] rfl) hG h
    · have h := ite_f c1 h
      refine lv_iload_n hx hb dX9_measure_94 rfl (lv_at hl 3 rfl) ?_
      refine lv_iload_n hx hb dX9_measure_95 rfl (lv_at hl 1 rfl) ?_
      refine lv_icmp_ge (tgt := 115) hx hb dX9_measure_96 (by decide) (fun c2 => ?_) (fun c2 => ?_)
      · have h := ite_t c2 h
        exact n115 k42 hk42 x1 x3 t1 v_heaps v_isMeasured v_wayOf _ _ _ (lv_sub hl [0, 1, 3] rfl) hG h
      · have h := ite_f c2 h
        refine lv_aload_n hx hb dX9_measure_99 rfl (lv_at hl 0 rfl) ?_
        refine gx_get (v := .ref (g.2.1 59)) (C := RX9) (T := TX9) (N := 44) hx hb hts mc_X9 hown hK hG (ga_50 g _) rfl 13 (by decide) hw1 rfl rfl dX9_measure_100 ?_
        refine lv_bipush (v := (32 : Int32)) hx hb dX9_measure_103 (by decide) ?_
        refine lv_iload_n hx hb dX9_measure_105 rfl (lv_at hl 1 rfl) ?_
        refine lv_imul hx hb dX9_measure_106 ?_
        refine lv_iload_n hx hb dX9_measure_107 rfl (lv_at hl 3 rfl) ?_
        refine lv_iadd hx hb dX9_measure_108 ?_
        obtain ⟨hg3, h⟩ := gd_some h
        refine gx_iald (f := v_wayOf) hx hb hK hG (ga_59 g _) hg3 dX9_measure_109 ?_
        refine lv_bipush (v := (99 : Int32)) hx hb dX9_measure_110 (by decide) ?_
        refine lv_icmp_ne (tgt := 119) hx hb dX9_measure_112 (by decide) (fun c4 => ?_) (fun c4 => ?_)
        · have h := ite_f c4 h
          exact n119 k42 hk42 x1 x3 t1 v_heaps v_isMeasured v_wayOf _ _ _ (lv_sub hl [0, 1, 3] rfl) hG h
        · have h := ite_t c4 h
          exact n115 k42 hk42 x1 x3 t1 v_heaps v_isMeasured v_wayOf _ _ _ (lv_sub hl [0, 1, 3] rfl) hG h
  have n141 : ∀ (k25 : Int32 → Int32 → Int32 → Int32 → (Nat → Int32) → Option (Int32 × Int32 × Int32 × (Nat → Int32))) (hk25 : ∀ (x1 : Int32) (v_far : Int32) (v_heaps : Int32) (v_isMeasured : Int32) (v_wayOf : Nat → Int32) (H : Heap) (locs : List Loc) (ls : Array Slot), lv_has ls 4 [(0, .ref (g.2.1 50)), (1, .int x1)] → GW g s (mkS σ [(3214, v_far), (3215, v_heaps), (3212, v_isMeasured)] [] [(59, v_wayOf)] []) H locs → k25 x1 v_far v_heaps v_isMeasured v_wayOf = some (w_far, w_heaps, w_isMeasured, w_wayOf) → Wg p l e 1 24 s m args below meth c g none (mkS σ [(3214, w_far), (3215, w_heaps), (3212, w_isMeasured)] [] [(59, w_wayOf)] []) H locs (F0 m 25 ls [])) (x1 : Int32) (t1 : Int32) (t2 : Int32) (v_far : Int32) (v_heaps : Int32) (v_isMeasured : Int32) (v_wayOf : Nat → Int32) (H : Heap) (locs : List Loc) (ls : Array Slot), lv_has ls 4 [(0, .ref (g.2.1 50)), (1, .int x1)] → GW g s (mkS σ [(3214, v_far), (3215, v_heaps), (3212, v_isMeasured)] [] [(59, v_wayOf)] []) H locs → M_measure_n141 k25 x1 t1 t2 v_far v_heaps v_isMeasured v_wayOf = some (w_far, w_heaps, w_isMeasured, w_wayOf) → Wg p l e 1 24 s m args below meth c g none (mkS σ [(3214, w_far), (3215, w_heaps), (3212, w_isMeasured)] [] [(59, w_wayOf)] []) H locs (F0 m 141 ls [.int t2, .int t1, .ref (g.2.1 50)]) := by
    intro k25 hk25 x1 t1 t2 v_far v_heaps v_isMeasured v_wayOf H locs ls hl hG h
    unfold M_measure_n141 at h
    refine lv_iadd hx hb dX9_measure_141 ?_
    refine gx_put (σ' := (mkS σ [(3214, v_far), (3215, (t1 + t2)), (3212, v_isMeasured)] [] [(59, v_wayOf)] [])) (C := RX9) (T := TX9) (N := 44) hx hb hts mc_X9 tyX9 tyX9_ok nmX9 hown hK hG (ga_50 g _) rfl 15 (by decide) hw2 rfl rfl rfl rfl (Nat.le_of_ble_eq_true rfl) ((gf_3215 g _ _).trans (congrArg (g_cells g) (mk_a 1 rfl rfl))) dX9_measure_142 (fun H locs hG => ?_)
    refine lv_iinc (v := (x1 + (1 : Int32))) (lv' := [(1, .int (x1 + (1 : Int32))), (0, .ref (g.2.1 50))]) hx hb dX9_measure_145 hl (k := 1) rfl (congrArg (fun z => x1 + z) (by decide)) (Nat.le_of_ble_eq_true rfl) rfl (fun ls hl => ?_)
    refine lv_goto (tgt := 25) hx hb dX9_measure_148 (by decide) ?_
    exact hk25 (x1 + (1 : Int32)) v_far (t1 + t2) v_isMeasured v_wayOf _ _ _ (lv_sub hl [1, 0] rfl) hG h
  have n127 : ∀ (k25 : Int32 → Int32 → Int32 → Int32 → (Nat → Int32) → Option (Int32 × Int32 × Int32 × (Nat → Int32))) (hk25 : ∀ (x1 : Int32) (v_far : Int32) (v_heaps : Int32) (v_isMeasured : Int32) (v_wayOf : Nat → Int32) (H : Heap) (locs : List Loc) (ls : Array Slot), lv_has ls 4 [(0, .ref (g.2.1 50)), (1, .int x1)] → GW g s (mkS σ [(3214, v_far), (3215, v_heaps), (3212, v_isMeasured)] [] [(59, v_wayOf)] []) H locs → k25 x1 v_far v_heaps v_isMeasured v_wayOf = some (w_far, w_heaps, w_isMeasured, w_wayOf) → Wg p l e 1 24 s m args below meth c g none (mkS σ [(3214, w_far), (3215, w_heaps), (3212, w_isMeasured)] [] [(59, w_wayOf)] []) H locs (F0 m 25 ls [])) (x1 : Int32) (x2 : Int32) (v_far : Int32) (v_heaps : Int32) (v_isMeasured : Int32) (v_wayOf : Nat → Int32) (H : Heap) (locs : List Loc) (ls : Array Slot), lv_has ls 4 [(0, .ref (g.2.1 50)), (1, .int x1), (2, .int x2)] → GW g s (mkS σ [(3214, v_far), (3215, v_heaps), (3212, v_isMeasured)] [] [(59, v_wayOf)] []) H locs → M_measure_n127 k25 x1 x2 v_far v_heaps v_isMeasured v_wayOf = some (w_far, w_heaps, w_isMeasured, w_wayOf) → Wg p l e 1 24 s m args below meth c g none (mkS σ [(3214, w_far), (3215, w_heaps), (3212, w_isMeasured)] [] [(59, w_wayOf)] []) H locs (F0 m 127 ls []) := by
    intro k25 hk25 x1 x2 v_far v_heaps v_isMeasured v_wayOf H locs ls hl hG h
    unfold M_measure_n127 at h
    refine lv_aload_n hx hb dX9_measure_127 rfl (lv_at hl 0 rfl) ?_
    refine lv_dup hx hb dX9_measure_128 rfl ?_
    refine gx_get (v := .int v_heaps) (C := RX9) (T := TX9) (N := 44) hx hb hts mc_X9 hown hK hG (ga_50 g _) rfl 15 (by decide) hw2 rfl rfl dX9_measure_129 ?_
    refine lv_iload_n hx hb dX9_measure_132 rfl (lv_at hl 2 rfl) ?_
    refine lv_if_eq (tgt := 140) hx hb dX9_measure_133 (by decide) (fun c5 => ?_) (fun c5 => ?_)
    · have h := ite_t c5 h
      refine lv_iconst (v := (0 : Int32)) hx hb dX9_measure_140 (by decide) ?_
      exact n141 k25 hk25 x1 v_heaps (0 : Int32) v_far v_heaps v_isMeasured v_wayOf _ _ _ (lv_sub hl [0, 1] rfl) hG h
    · have h := ite_f c5 h
      refine lv_iconst (v := (1 : Int32)) hx hb dX9_measure_136 (by decide) ?_
      refine lv_goto (tgt := 141) hx hb dX9_measure_137 (by decide) ?_
      exact n141 k25 hk25 x1 v_heaps (1 : Int32) v_far v_heaps v_isMeasured v_wayOf _ _ _ (lv_sub hl [0, 1] rfl) hG h
  have n42 : ∀ (k25 : Int32 → Int32 → Int32 → Int32 → (Nat → Int32) → Option (Int32 × Int32 × Int32 × (Nat → Int32))) (hk25 : ∀ (x1 : Int32) (v_far : Int32) (v_heaps : Int32) (v_isMeasured : Int32) (v_wayOf : Nat → Int32) (H : Heap) (locs : List Loc) (ls : Array Slot), lv_has ls 4 [(0, .ref (g.2.1 50)), (1, .int x1)] → GW g s (mkS σ [(3214, v_far), (3215, v_heaps), (3212, v_isMeasured)] [] [(59, v_wayOf)] []) H locs → k25 x1 v_far v_heaps v_isMeasured v_wayOf = some (w_far, w_heaps, w_isMeasured, w_wayOf) → Wg p l e 1 24 s m args below meth c g none (mkS σ [(3214, w_far), (3215, w_heaps), (3212, w_isMeasured)] [] [(59, w_wayOf)] []) H locs (F0 m 25 ls [])) (k42 : Int32 → Int32 → Int32 → Int32 → Int32 → Int32 → (Nat → Int32) → Option (Int32 × Int32 × Int32 × (Nat → Int32))) (hk42 : ∀ (x1 : Int32) (x2 : Int32) (x3 : Int32) (v_far : Int32) (v_heaps : Int32) (v_isMeasured : Int32) (v_wayOf : Nat → Int32) (H : Heap) (locs : List Loc) (ls : Array Slot), lv_has ls 4 [(0, .ref (g.2.1 50)), (1, .int x1), (2, .int x2), (3, .int x3)] → GW g s (mkS σ [(3214, v_far), (3215, v_heaps), (3212, v_isMeasured)] [] [(59, v_wayOf)] []) H locs → k42 x1 x2 x3 v_far v_heaps v_isMeasured v_wayOf = some (w_far, w_heaps, w_isMeasured, w_wayOf) → Wg p l e 1 24 s m args below meth c g none (mkS σ [(3214, w_far), (3215, w_heaps), (3212, w_isMeasured)] [] [(59, w_wayOf)] []) H locs (F0 m 42 ls [])) (x1 : Int32) (x2 : Int32) (x3 : Int32) (v_far : Int32) (v_heaps : Int32) (v_isMeasured : Int32) (v_wayOf : Nat → Int32) (H : Heap) (locs : List Loc) (ls : Array Slot), lv_has ls 4 [(0, .ref (g.2.1 50)), (1, .int x1), (2, .int x2), (3, .int x3)] → GW g s (mkS σ [(3214, v_far), (3215, v_heaps), (3212, v_isMeasured)] [] [(59, v_wayOf)] []) H locs → M_measure_n42 k25 k42 (σ.1 3203) x1 x2 x3 v_far v_heaps v_isMeasured v_wayOf = some (w_far, w_heaps, w_isMeasured, w_wayOf) → Wg p l e 1 24 s m args below meth c g none (mkS σ [(3214, w_far), (3215, w_heaps), (3212, w_isMeasured)] [] [(59, w_wayOf)] []) H locs (F0 m 42 ls []) := by
    intro k25 hk25 k42 hk42 x1 x2 x3 v_far v_heaps v_isMeasured v_wayOf H locs ls hl hG h
    unfold M_measure_n42 at h
    refine lv_iload_n hx hb dX9_measure_42 rfl (lv_at hl 3 rfl) ?_
    refine lv_aload_n hx hb dX9_measure_43 rfl (lv_at hl 0 rfl) ?_
    refine gx_get (v := .int (σ.1 3203)) (C := RX9) (T := TX9) (N := 44) hx hb hts mc_X9 hown hK hG (ga_50 g _) rfl 3 (by decide) hw3 rfl rfl dX9_measure_44 ?_
    refine lv_icmp_ge (tgt := 127) hx hb dX9_measure_47 (by decide) (fun c6 => ?_) (fun c6 => ?_)
    · have h := ite_t c6 h
      exact n127 k25 hk25 x1 x2 v_far v_heaps v_isMeasured v_wayOf _ _ _ (lv_sub hl [0, 1, 2] rfl) hG h
    · have h := ite_f c6 h
      refine lv_aload_n hx hb dX9_measure_50 rfl (lv_at hl 0 rfl) ?_
      refine lv_aload_n hx hb dX9_measure_51 rfl (lv_at hl 0 rfl) ?_
      refine gx_get (v := .ref (g.2.1 59)) (C := RX9) (T := TX9) (N := 44) hx hb hts mc_X9 hown hK hG (ga_50 g _) rfl 13 (by decide) hw1 rfl rfl dX9_measure_52 ?_
      refine lv_bipush (v := (32 : Int32)) hx hb dX9_measure_55 (by decide) ?_
      refine lv_iload_n hx hb dX9_measure_57 rfl (lv_at hl 1 rfl) ?_
      refine lv_imul hx hb dX9_measure_58 ?_
      refine lv_iload_n hx hb dX9_measure_59 rfl (lv_at hl 3 rfl) ?_
      refine lv_iadd hx hb dX9_measure_60 ?_
      obtain ⟨hg7, h⟩ := gd_some h
      refine gx_iald (f := v_wayOf) hx hb hK hG (ga_59 g _) hg7 dX9_measure_61 ?_
      refine lv_aload_n hx hb dX9_measure_62 rfl (lv_at hl 0 rfl) ?_
      refine gx_get (v := .int v_far) (C := RX9) (T := TX9) (N := 44) hx hb hts mc_X9 hown hK hG (ga_50 g _) rfl 14 (by decide) hw0 rfl rfl dX9_measure_63 ?_
      refine lv_icmp_le (tgt := 83) hx hb dX9_measure_66 (by decide) (fun c8 => ?_) (fun c8 => ?_)
      · have h := ite_t c8 h
        refine lv_aload_n hx hb dX9_measure_83 rfl (lv_at hl 0 rfl) ?_
        refine gx_get (v := .int v_far) (C := RX9) (T := TX9) (N := 44) hx hb hts mc_X9 hown hK hG (ga_50 g _) rfl 14 (by decide) hw0 rfl rfl dX9_measure_84 ?_
        exact n87 k42 hk42 x1 x2 x3 v_far v_far v_heaps v_isMeasured v_wayOf _ _ _ (lv_sub hl [0, 1, 2, 3] rfl) hG h
      · have h := ite_f c8 h
        refine lv_aload_n hx hb dX9_measure_69 rfl (lv_at hl 0 rfl) ?_
        refine gx_get (v := .ref (g.2.1 59)) (C := RX9) (T := TX9) (N := 44) hx hb hts mc_X9 hown hK hG (ga_50 g _) rfl 13 (by decide) hw1 rfl rfl dX9_measure_70 ?_
        refine lv_bipush (v := (32 : Int32)) hx hb dX9_measure_73 (by decide) ?_
        refine lv_iload_n hx hb dX9_measure_75 rfl (lv_at hl 1 rfl) ?_
        refine lv_imul hx hb dX9_measure_76 ?_
        refine lv_iload_n hx hb dX9_measure_77 rfl (lv_at hl 3 rfl) ?_
        refine lv_iadd hx hb dX9_measure_78 ?_
        refine gx_iald (f := v_wayOf) hx hb hK hG (ga_59 g _) hg7 dX9_measure_79 ?_
        refine lv_goto (tgt := 87) hx hb dX9_measure_80 (by decide) ?_
        exact n87 k42 hk42 x1 x2 x3 (v_wayOf ((((32 : Int32) * x1) + x3).toNatClampNeg)) v_far v_heaps v_isMeasured v_wayOf _ _ _ (lv_sub hl [0, 1, 2, 3] rfl) hG h
  have l42 : ∀ (k25 : Int32 → Int32 → Int32 → Int32 → (Nat → Int32) → Option (Int32 × Int32 × Int32 × (Nat → Int32))) (hk25 : ∀ (x1 : Int32) (v_far : Int32) (v_heaps : Int32) (v_isMeasured : Int32) (v_wayOf : Nat → Int32) (H : Heap) (locs : List Loc) (ls : Array Slot), lv_has ls 4 [(0, .ref (g.2.1 50)), (1, .int x1)] → GW g s (mkS σ [(3214, v_far), (3215, v_heaps), (3212, v_isMeasured)] [] [(59, v_wayOf)] []) H locs → k25 x1 v_far v_heaps v_isMeasured v_wayOf = some (w_far, w_heaps, w_isMeasured, w_wayOf) → Wg p l e 1 24 s m args below meth c g none (mkS σ [(3214, w_far), (3215, w_heaps), (3212, w_isMeasured)] [] [(59, w_wayOf)] []) H locs (F0 m 25 ls [])) (F : Nat) (x1 : Int32) (x2 : Int32) (x3 : Int32) (v_far : Int32) (v_heaps : Int32) (v_isMeasured : Int32) (v_wayOf : Nat → Int32) (H : Heap) (locs : List Loc) (ls : Array Slot), lv_has ls 4 [(0, .ref (g.2.1 50)), (1, .int x1), (2, .int x2), (3, .int x3)] → GW g s (mkS σ [(3214, v_far), (3215, v_heaps), (3212, v_isMeasured)] [] [(59, v_wayOf)] []) H locs → M_measure_l42 k25 (σ.1 3203) F x1 x2 x3 v_far v_heaps v_isMeasured v_wayOf = some (w_far, w_heaps, w_isMeasured, w_wayOf) → Wg p l e 1 24 s m args below meth c g none (mkS σ [(3214, w_far), (3215, w_heaps), (3212, w_isMeasured)] [] [(59, w_wayOf)] []) H locs (F0 m 42 ls []) := by
    intro k25 hk25 F
    induction F with
    | zero => intro x1 x2 x3 v_far v_heaps v_isMeasured v_wayOf H locs ls hl hG h; exact no_some h
    | succ F ih => intro x1 x2 x3 v_far v_heaps v_isMeasured v_wayOf H locs ls hl hG h; exact n42 k25 hk25 (fun x1 x2 x3 v_far v_heaps v_isMeasured v_wayOf => M_measure_l42 k25 (σ.1 3203) F x1 x2 x3 v_far v_heaps v_isMeasured v_wayOf) ih x1 x2 x3 v_far v_heaps v_isMeasured v_wayOf H locs ls hl hG h
  have n151 : ∀ (v_far : Int32) (v_heaps : Int32) (v_isMeasured : Int32) (v_wayOf : Nat → Int32) (H : Heap) (locs : List Loc) (ls : Array Slot), lv_has ls 4 [] → GW g s (mkS σ [(3214, v_far), (3215, v_heaps), (3212, v_isMeasured)] [] [(59, v_wayOf)] []) H locs → M_measure_n151 v_far v_heaps v_isMeasured v_wayOf = some (w_far, w_heaps, w_isMeasured, w_wayOf) → Wg p l e 1 24 s m args below meth c g none (mkS σ [(3214, w_far), (3215, w_heaps), (3212, w_isMeasured)] [] [(59, w_wayOf)] []) H locs (F0 m 151 ls []) := by
    intro v_far v_heaps v_isMeasured v_wayOf H locs ls hl hG h
    unfold M_measure_n151 at h
    cases h
    exact gx_vret hx hb hr hlocks hG dX9_measure_151
  have n25 : ∀ (k25 : Int32 → Int32 → Int32 → Int32 → (Nat → Int32) → Option (Int32 × Int32 × Int32 × (Nat → Int32))) (hk25 : ∀ (x1 : Int32) (v_far : Int32) (v_heaps : Int32) (v_isMeasured : Int32) (v_wayOf : Nat → Int32) (H : Heap) (locs : List Loc) (ls : Array Slot), lv_has ls 4 [(0, .ref (g.2.1 50)), (1, .int x1)] → GW g s (mkS σ [(3214, v_far), (3215, v_heaps), (3212, v_isMeasured)] [] [(59, v_wayOf)] []) H locs → k25 x1 v_far v_heaps v_isMeasured v_wayOf = some (w_far, w_heaps, w_isMeasured, w_wayOf) → Wg p l e 1 24 s m args below meth c g none (mkS σ [(3214, w_far), (3215, w_heaps), (3212, w_isMeasured)] [] [(59, w_wayOf)] []) H locs (F0 m 25 ls [])) (x1 : Int32) (v_far : Int32) (v_heaps : Int32) (v_isMeasured : Int32) (v_wayOf : Nat → Int32) (H : Heap) (locs : List Loc) (ls : Array Slot), lv_has ls 4 [(0, .ref (g.2.1 50)), (1, .int x1)] → GW g s (mkS σ [(3214, v_far), (3215, v_heaps), (3212, v_isMeasured)] [] [(59, v_wayOf)] []) H locs → M_measure_n25 k25 (σ.1 3203) (σ.2.2.1 54) x1 v_far v_heaps v_isMeasured v_wayOf = some (w_far, w_heaps, w_isMeasured, w_wayOf) → Wg p l e 1 24 s m args below meth c g none (mkS σ [(3214, w_far), (3215, w_heaps), (3212, w_isMeasured)] [] [(59, w_wayOf)] []) H locs (F0 m 25 ls []) := by
    intro k25 hk25 x1 v_far v_heaps v_isMeasured v_wayOf H locs ls hl hG h
    unfold M_measure_n25 at h
    refine lv_iload_n hx hb dX9_measure_25 rfl (lv_at hl 1 rfl) ?_
    refine lv_aload_n hx hb dX9_measure_26 rfl (lv_at hl 0 rfl) ?_
    refine gx_get (v := .int (σ.1 3203)) (C := RX9) (T := TX9) (N := 44) hx hb hts mc_X9 hown hK hG (ga_50 g _) rfl 3 (by decide) hw3 rfl rfl dX9_measure_27 ?_
    refine lv_icmp_ge (tgt := 151) hx hb dX9_measure_30 (by decide) (fun c9 => ?_) (fun c9 => ?_)
    · have h := ite_t c9 h
      exact n151 v_far v_heaps v_isMeasured v_wayOf _ _ _ (lv_sub hl [] rfl) hG h
    · have h := ite_f c9 h
      refine lv_aload_n hx hb dX9_measure_33 rfl (lv_at hl 0 rfl) ?_
      refine lv_iload_n hx hb dX9_measure_34 rfl (lv_at hl 1 rfl) ?_
      obtain ⟨z10, hc11, h⟩ := bnd_some h
      refine gx_cV (σ' := (mkS σ [(3214, v_far), (3215, v_heaps), (3212, v_isMeasured)] [] [(59, z10)] [])) (r := none) (rest := []) (As := [.int x1]) hS9 (c_M_measureFrom l g (mkS σ [(3214, v_far), (3215, v_heaps), (3212, v_isMeasured)] [] [(59, v_wayOf)] []) x1 z10 hc11) (mk_mk rfl rfl rfl rfl) (cwV 1 hts (gz_V mw_5_121 mw_5_123 ms_3_10 mw_1_11 mw_5_124) rfl rfl rfl hdV_X9_measureFrom ⟨Nat.le_of_ble_eq_true rfl, Nat.le_of_ble_eq_true rfl⟩) hK hG (ga_50 g _) rfl rfl rfl hl.1 rfl (Nat.le_of_ble_eq_true rfl) dX9_measure_35 (fun H locs hG => ?_)
      refine W.eq (g2 := F0 m 38 ls []) rfl ?_
      refine lv_iconst (v := (1 : Int32)) hx hb dX9_measure_38 (by decide) ?_
      refine lv_istore_n (lv' := [(2, .int (1 : Int32)), (0, .ref (g.2.1 50)), (1, .int x1)]) hx hb dX9_measure_39 rfl hl (Nat.le_of_ble_eq_true rfl) rfl (fun ls hl => ?_)
      refine lv_iconst (v := (0 : Int32)) hx hb dX9_measure_40 (by decide) ?_
      refine lv_istore_n (lv' := [(3, .int (0 : Int32)), (2, .int (1 : Int32)), (0, .ref (g.2.1 50)), (1, .int x1)]) hx hb dX9_measure_41 rfl hl (Nat.le_of_ble_eq_true rfl) rfl (fun ls hl => ?_)
      exact l42 k25 hk25 FUEL x1 (1 : Int32) (0 : Int32) v_far v_heaps v_isMeasured z10 _ _ _ (lv_sub hl [2, 3, 1, 0] rfl) hG h
  have l25 : ∀  (F : Nat) (x1 : Int32) (v_far : Int32) (v_heaps : Int32) (v_isMeasured : Int32) (v_wayOf : Nat → Int32) (H : Heap) (locs : List Loc) (ls : Array Slot), lv_has ls 4 [(0, .ref (g.2.1 50)), (1, .int x1)] → GW g s (mkS σ [(3214, v_far), (3215, v_heaps), (3212, v_isMeasured)] [] [(59, v_wayOf)] []) H locs → M_measure_l25 (σ.1 3203) (σ.2.2.1 54) F x1 v_far v_heaps v_isMeasured v_wayOf = some (w_far, w_heaps, w_isMeasured, w_wayOf) → Wg p l e 1 24 s m args below meth c g none (mkS σ [(3214, w_far), (3215, w_heaps), (3212, w_isMeasured)] [] [(59, w_wayOf)] []) H locs (F0 m 25 ls []) := by
    intro F
    induction F with
    | zero => intro x1 v_far v_heaps v_isMeasured v_wayOf H locs ls hl hG h; exact no_some h
    | succ F ih => intro x1 v_far v_heaps v_isMeasured v_wayOf H locs ls hl hG h; exact n25 (fun x1 v_far v_heaps v_isMeasured v_wayOf => M_measure_l25 (σ.1 3203) (σ.2.2.1 54) F x1 v_far v_heaps v_isMeasured v_wayOf) ih x1 v_far v_heaps v_isMeasured v_wayOf H locs ls hl hG h
  refine lv_aload_n hx hb dX9_measure_0 rfl (lv_at hl 0 rfl) ?_
  refine gx_get (v := .int (σ.1 3212)) (C := RX9) (T := TX9) (N := 44) hx hb hts mc_X9 hown hK hG (ga_50 g _) rfl 12 (by decide) hw4 rfl rfl dX9_measure_1 ?_
  refine lv_if_eq (tgt := 8) hx hb dX9_measure_4 (by decide) (fun c12 => ?_) (fun c12 => ?_)
  · have h := ite_t c12 h
    refine lv_aload_n hx hb dX9_measure_8 rfl (lv_at hl 0 rfl) ?_
    refine lv_iconst (v := (1 : Int32)) hx hb dX9_measure_9 (by decide) ?_
    refine gx_put (σ' := (mkS σ [(3214, (σ.1 3214)), (3215, (σ.1 3215)), (3212, (1 : Int32))] [] [(59, (σ.2.2.1 59))] [])) (C := RX9) (T := TX9) (N := 44) hx hb hts mc_X9 tyX9 tyX9_ok nmX9 hown hK hG (ga_50 g _) rfl 12 (by decide) hw4 rfl rfl (isb_n (by decide)) (isb_f (by decide)) (Nat.le_of_ble_eq_true rfl) ((gf_3212 g _ _).trans (congrArg (g_cells g) (mk_a 2 rfl rfl))) dX9_measure_10 (fun H locs hG => ?_)
    refine lv_aload_n hx hb dX9_measure_13 rfl (lv_at hl 0 rfl) ?_
    refine lv_iconst (v := (0 : Int32)) hx hb dX9_measure_14 (by decide) ?_
    refine gx_put (σ' := (mkS σ [(3214, (0 : Int32)), (3215, (σ.1 3215)), (3212, (1 : Int32))] [] [(59, (σ.2.2.1 59))] [])) (C := RX9) (T := TX9) (N := 44) hx hb hts mc_X9 tyX9 tyX9_ok nmX9 hown hK hG (ga_50 g _) rfl 14 (by decide) hw0 rfl rfl rfl rfl (Nat.le_of_ble_eq_true rfl) ((gf_3214 g _ _).trans (congrArg (g_cells g) (mk_a 0 rfl rfl))) dX9_measure_15 (fun H locs hG => ?_)
    refine lv_aload_n hx hb dX9_measure_18 rfl (lv_at hl 0 rfl) ?_
    refine lv_iconst (v := (0 : Int32)) hx hb dX9_measure_19 (by decide) ?_
    refine gx_put (σ' := (mkS σ [(3214, (0 : Int32)), (3215, (0 : Int32)), (3212, (1 : Int32))] [] [(59, (σ.2.2.1 59))] [])) (C := RX9) (T := TX9) (N := 44) hx hb hts mc_X9 tyX9 tyX9_ok nmX9 hown hK hG (ga_50 g _) rfl 15 (by decide) hw2 rfl rfl rfl rfl (Nat.le_of_ble_eq_true rfl) ((gf_3215 g _ _).trans (congrArg (g_cells g) (mk_a 1 rfl rfl))) dX9_measure_20 (fun H locs hG => ?_)
    refine lv_iconst (v := (0 : Int32)) hx hb dX9_measure_23 (by decide) ?_
    refine lv_istore_n (lv' := [(1, .int (0 : Int32)), (0, .ref (g.2.1 50))]) hx hb dX9_measure_24 rfl hl (Nat.le_of_ble_eq_true rfl) rfl (fun ls hl => ?_)
    exact l25 FUEL (0 : Int32) (0 : Int32) (0 : Int32) (1 : Int32) (σ.2.2.1 59) _ _ _ (lv_sub hl [1, 0] rfl) hG h
  · have h := ite_f c12 h
    cases h
    exact gx_vret hx hb hr hlocks hG dX9_measure_7

set_option maxHeartbeats 4000000 in
set_option maxRecDepth 100000 in
theorem c_M_isWhole (l : Launch) (g : GC) (σ : St) (r : Int32) (w_far : Int32) (w_heaps : Int32) (w_isMeasured : Int32) (w_wayOf : Nat → Int32) (h : M_isWhole (σ.1 3214) (σ.1 3215) (σ.1 3212) (σ.1 3203) (σ.2.2.1 54) (σ.2.2.1 59) = some (r, w_far, w_heaps, w_isMeasured, w_wayOf)) : Cn l g yX9_isWhole (Cond.code yX9_isWhole cX9_isWhole 1 (some .boolean) :: wG) 2 47 [.ref (g.2.1 50)] σ (some (.int r)) (mkS σ [(3214, w_far), (3215, w_heaps), (3212, w_isMeasured)] [] [(59, w_wayOf)] []) := by
  unfold Cn
  refine Met.ofW (cc := cX9_isWhole) (maxL := 1) (ret := (some .boolean)) (by decide) rfl ?_
  intro p e s m args below meth c s₁ B hml hv
  obtain ⟨hargs, hP0, hK⟩ := hv
  have hx := B.exec
  have hb := B.bytes
  have hr := B.returns
  have hts : ∀ w ∈ wG, w.before args s = true := fun w h => atoms_spec (ws := (Cond.code yX9_isWhole cX9_isWhole 1 (some .boolean) :: wG)) B.pre w (List.mem_cons_of_mem _ h)
  have hown : s.vm.findClass RX9 = some m.cls := findClass_of_methodNamed B.named
  have hlocks := B.notSynchronized
  have hS9 : CallFix p m c cX9_isWhole 1 s args wG RX9 := ⟨hx, hb, hml, hown, hts⟩
  have hw0 := hts _ mw_4_154
  have hf9 : entryFrame m args 1 = _ := (congrArg (fun a => entryFrame m a 1) hargs).trans (lg_entry_eq m [.ref (g.2.1 50)] 1)
  show Wg p l e 2 47 s m args below meth c g (some (.int r)) (mkS σ [(3214, w_far), (3215, w_heaps), (3212, w_isMeasured)] [] [(59, w_wayOf)] []) s.heap [] (entryFrame m args 1)
  rw [hf9]
  have hl := lv_entry ([.ref (g.2.1 50)]) (n := 1) (Nat.le_of_ble_eq_true rfl)
  generalize (lg_sl ([.ref (g.2.1 50)]) ++ List.replicate (1 - (lg_sl ([.ref (g.2.1 50)])).length) Slot.unset).toArray = ls at hl ⊢
  have hl : lv_has ls 1 [(0, .ref (g.2.1 50))] := hl
  have hG : GW g s σ s.heap [] := ⟨hP0, va_S.rf⟩
  have hG : GW g s (mkS σ [(3214, (σ.1 3214)), (3215, (σ.1 3215)), (3212, (σ.1 3212))] [] [(59, (σ.2.2.1 59))] []) s.heap [] := GW_self [3214, 3215, 3212] [] [59] [] hG
  unfold M_isWhole at h
  have n17 : ∀ (t0 : Int32) (v_far : Int32) (v_heaps : Int32) (v_isMeasured : Int32) (v_wayOf : Nat → Int32) (H : Heap) (locs : List Loc) (ls : Array Slot), lv_has ls 1 [] → GW g s (mkS σ [(3214, v_far), (3215, v_heaps), (3212, v_isMeasured)] [] [(59, v_wayOf)] []) H locs → M_isWhole_n17 t0 v_far v_heaps v_isMeasured v_wayOf = some (r, w_far, w_heaps, w_isMeasured, w_wayOf) → Wg p l e 2 47 s m args below meth c g (some (.int r)) (mkS σ [(3214, w_far), (3215, w_heaps), (3212, w_isMeasured)] [] [(59, w_wayOf)] []) H locs (F0 m 17 ls [.int t0]) := by
    intro t0 v_far v_heaps v_isMeasured v_wayOf H locs ls hl hG h
    unfold M_isWhole_n17 at h
    obtain ⟨hg1, h⟩ := gd_some h
    cases h
    exact gx_zret hx hb hr hlocks hg1 hG dX9_isWhole_17
  refine lv_aload_n hx hb dX9_isWhole_0 rfl (lv_at hl 0 rfl) ?_
  obtain ⟨z2, hc3, h⟩ := bnd_some h
  refine gx_cV (σ' := (mkS σ [(3214, z2.1), (3215, z2.2.1), (3212, z2.2.2.1)] [] [(59, z2.2.2.2)] [])) (r := none) (rest := []) (As := []) hS9 (c_M_measure l g (mkS σ [(3214, (σ.1 3214)), (3215, (σ.1 3215)), (3212, (σ.1 3212))] [] [(59, (σ.2.2.1 59))] []) z2.1 z2.2.1 z2.2.2.1 z2.2.2.2 hc3) (mk_mk rfl rfl rfl rfl) (cwV 0 hts (gz_V mw_5_117 mw_5_119 ms_3_9 mw_1_11 mw_5_120) rfl rfl rfl hdV_X9_measure ⟨Nat.le_of_ble_eq_true rfl, Nat.le_of_ble_eq_true rfl⟩) hK hG (ga_50 g _) rfl rfl rfl hl.1 rfl (Nat.le_of_ble_eq_true rfl) dX9_isWhole_1 (fun H locs hG => ?_)
  refine W.eq (g2 := F0 m 4 ls []) rfl ?_
  refine lv_aload_n hx hb dX9_isWhole_4 rfl (lv_at hl 0 rfl) ?_
  refine gx_get (v := .int z2.2.1) (C := RX9) (T := TX9) (N := 44) hx hb hts mc_X9 hown hK hG (ga_50 g _) rfl 15 (by decide) hw0 rfl rfl dX9_isWhole_5 ?_
  refine lv_iconst (v := (1 : Int32)) hx hb dX9_isWhole_8 (by decide) ?_
  refine lv_icmp_ne (tgt := 16) hx hb dX9_isWhole_9 (by decide) (fun c4 => ?_) (fun c4 => ?_)
  · have h := ite_f c4 h
    refine lv_iconst (v := (0 : Int32)) hx hb dX9_isWhole_16 (by decide) ?_
    exact n17 (0 : Int32) z2.1 z2.2.1 z2.2.2.1 z2.2.2.2 _ _ _ (lv_sub hl [] rfl) hG h
  · have h := ite_t c4 h
    refine lv_iconst (v := (1 : Int32)) hx hb dX9_isWhole_12 (by decide) ?_
    refine lv_goto (tgt := 17) hx hb dX9_isWhole_13 (by decide) ?_
    exact n17 (1 : Int32) z2.1 z2.2.1 z2.2.2.1 z2.2.2.2 _ _ _ (lv_sub hl [] rfl) hG h

set_option maxHeartbeats 4000000 in
set_option maxRecDepth 100000 in
theorem c_M_beside (l : Launch) (g : GC) (σ : St) (x1 : Int32) (x2 : Int32) (x3 : Int32) (r : Int32) (h : M_beside x1 x2 x3 (σ.1 3203) (σ.2.2.1 54) (σ.2.2.1 59) = some r) : Cn l g yX9_beside (Cond.code yX9_beside cX9_beside 6 (some .int) :: wG) 0 0 [.ref (g.2.1 50), .int x1, .int x2, .int x3] σ (some (.int r)) σ := by
  unfold Cn
  refine Met.ofW (cc := cX9_beside) (maxL := 6) (ret := (some .int)) (by decide) rfl ?_
  intro p e s m args below meth c s₁ B hml hv
  obtain ⟨hargs, hP0, hK⟩ := hv
  have hx := B.exec
  have hb := B.bytes
  have hr := B.returns
  have hts : ∀ w ∈ wG, w.before args s = true := fun w h => atoms_spec (ws := (Cond.code yX9_beside cX9_beside 6 (some .int) :: wG)) B.pre w (List.mem_cons_of_mem _ h)
  have hown : s.vm.findClass RX9 = some m.cls := findClass_of_methodNamed B.named
  have hlocks := B.notSynchronized
  have hw0 := hts _ mw_4_142
  have hw1 := hts _ mw_4_143
  have hw2 := hts _ mw_4_152
  have hf9 : entryFrame m args 6 = _ := (congrArg (fun a => entryFrame m a 6) hargs).trans (lg_entry_eq m [.ref (g.2.1 50), .int x1, .int x2, .int x3] 6)
  show Wg p l e 0 0 s m args below meth c g (some (.int r)) σ s.heap [] (entryFrame m args 6)
  rw [hf9]
  have hl := lv_entry ([.ref (g.2.1 50), .int x1, .int x2, .int x3]) (n := 6) (Nat.le_of_ble_eq_true rfl)
  generalize (lg_sl ([.ref (g.2.1 50), .int x1, .int x2, .int x3]) ++ List.replicate (6 - (lg_sl ([.ref (g.2.1 50), .int x1, .int x2, .int x3])).length) Slot.unset).toArray = ls at hl ⊢
  have hl : lv_has ls 6 [(0, .ref (g.2.1 50)), (1, .int x1), (2, .int x2), (3, .int x3)] := hl
  have hG : GW g s σ s.heap [] := ⟨hP0, va_S.rf⟩
  unfold M_beside at h
  have n53 : ∀ (k6 : Int32 → Int32 → Int32 → Int32 → Int32 → Option (Int32)) (hk6 : ∀ (x1 : Int32) (x2 : Int32) (x3 : Int32) (x4 : Int32) (x5 : Int32) (H : Heap) (locs : List Loc) (ls : Array Slot), lv_has ls 6 [(0, .ref (g.2.1 50)), (1, .int x1), (2, .int x2), (3, .int x3), (4, .int x4), (5, .int x5)] → GW g s σ H locs → k6 x1 x2 x3 x4 x5 = some r → Wg p l e 0 0 s m args below meth c g (some (.int r)) σ H locs (F0 m 6 ls [])) (x1 : Int32) (x2 : Int32) (x3 : Int32) (x5 : Int32) (t0 : Int32) (t1 : Int32) (H : Heap) (locs : List Loc) (ls : Array Slot), lv_has ls 6 [(0, .ref (g.2.1 50)), (1, .int x1), (2, .int x2), (3, .int x3), (5, .int x5)] → GW g s σ H locs → M_beside_n53 k6 x1 x2 x3 x5 t0 t1 = some r → Wg p l e 0 0 s m args below meth c g (some (.int r)) σ H locs (F0 m 53 ls [.int t1, .int t0]) := by
    intro k6 hk6 x1 x2 x3 x5 t0 t1 H locs ls hl hG h
    unfold M_beside_n53 at h
    refine lv_iadd hx hb dX9_beside_53 ?_
    refine lv_istore (lv' := [(4, .int (t0 + t1)), (0, .ref (g.2.1 50)), (1, .int x1), (2, .int x2), (3, .int x3), (5, .int x5)]) hx hb dX9_beside_54 hl (Nat.le_of_ble_eq_true rfl) rfl (fun ls hl => ?_)
    refine lv_iinc (v := (x5 + (1 : Int32))) (lv' := [(5, .int (x5 + (1 : Int32))), (4, .int (t0 + t1)), (0, .ref (g.2.1 50)), (1, .int x1), (2, .int x2), (3, .int x3)]) hx hb dX9_beside_56 hl (k := 5) rfl (congrArg (fun z => x5 + z) (by decide)) (Nat.le_of_ble_eq_true rfl) rfl (fun ls hl => ?_)
    refine lv_goto (tgt := 6) hx hb dX9_beside_59 (by decide) ?_
    exact hk6 x1 x2 x3 (t0 + t1) (x5 + (1 : Int32)) _ _ _ (lv_sub hl [2, 3, 4, 5, 1, 0] rfl) hG h
  have n52 : ∀ (k6 : Int32 → Int32 → Int32 → Int32 → Int32 → Option (Int32)) (hk6 : ∀ (x1 : Int32) (x2 : Int32) (x3 : Int32) (x4 : Int32) (x5 : Int32) (H : Heap) (locs : List Loc) (ls : Array Slot), lv_has ls 6 [(0, .ref (g.2.1 50)), (1, .int x1), (2, .int x2), (3, .int x3), (4, .int x4), (5, .int x5)] → GW g s σ H locs → k6 x1 x2 x3 x4 x5 = some r → Wg p l e 0 0 s m args below meth c g (some (.int r)) σ H locs (F0 m 6 ls [])) (x1 : Int32) (x2 : Int32) (x3 : Int32) (x5 : Int32) (t0 : Int32) (H : Heap) (locs : List Loc) (ls : Array Slot), lv_has ls 6 [(0, .ref (g.2.1 50)), (1, .int x1), (2, .int x2), (3, .int x3), (5, .int x5)] → GW g s σ H locs → M_beside_n52 k6 x1 x2 x3 x5 t0 = some r → Wg p l e 0 0 s m args below meth c g (some (.int r)) σ H locs (F0 m 52 ls [.int t0]) := by
    intro k6 hk6 x1 x2 x3 x5 t0 H locs ls hl hG h
    unfold M_beside_n52 at h
    refine lv_iconst (v := (0 : Int32)) hx hb dX9_beside_52 (by decide) ?_
    exact n53 k6 hk6 x1 x2 x3 x5 t0 (0 : Int32) _ _ _ (lv_sub hl [0, 1, 2, 3, 4] rfl) hG h
  have n62 : ∀ (x4 : Int32) (H : Heap) (locs : List Loc) (ls : Array Slot), lv_has ls 6 [(4, .int x4)] → GW g s σ H locs → M_beside_n62 x4 = some r → Wg p l e 0 0 s m args below meth c g (some (.int r)) σ H locs (F0 m 62 ls []) := by
    intro x4 H locs ls hl hG h
    unfold M_beside_n62 at h
    refine lv_iload hx hb dX9_beside_62 (lv_at hl 0 rfl) ?_
    cases h
    exact gx_iret hx hb hr hlocks hG dX9_beside_64
  have n6 : ∀ (k6 : Int32 → Int32 → Int32 → Int32 → Int32 → Option (Int32)) (hk6 : ∀ (x1 : Int32) (x2 : Int32) (x3 : Int32) (x4 : Int32) (x5 : Int32) (H : Heap) (locs : List Loc) (ls : Array Slot), lv_has ls 6 [(0, .ref (g.2.1 50)), (1, .int x1), (2, .int x2), (3, .int x3), (4, .int x4), (5, .int x5)] → GW g s σ H locs → k6 x1 x2 x3 x4 x5 = some r → Wg p l e 0 0 s m args below meth c g (some (.int r)) σ H locs (F0 m 6 ls [])) (x1 : Int32) (x2 : Int32) (x3 : Int32) (x4 : Int32) (x5 : Int32) (H : Heap) (locs : List Loc) (ls : Array Slot), lv_has ls 6 [(0, .ref (g.2.1 50)), (1, .int x1), (2, .int x2), (3, .int x3), (4, .int x4), (5, .int x5)] → GW g s σ H locs → M_beside_n6 k6 (σ.1 3203) (σ.2.2.1 54) (σ.2.2.1 59) x1 x2 x3 x4 x5 = some r → Wg p l e 0 0 s m args below meth c g (some (.int r)) σ H locs (F0 m 6 ls []) := by
    intro k6 hk6 x1 x2 x3 x4 x5 H locs ls hl hG h
    unfold M_beside_n6 at h
    refine lv_iload hx hb dX9_beside_6 (lv_at hl 5 rfl) ?_
    refine lv_aload_n hx hb dX9_beside_8 rfl (lv_at hl 0 rfl) ?_
    refine gx_get (v := .int (σ.1 3203)) (C := RX9) (T := TX9) (N := 44) hx hb hts mc_X9 hown hK hG (ga_50 g _) rfl 3 (by decide) hw0 rfl rfl dX9_beside_9 ?_
    refine lv_icmp_ge (tgt := 62) hx hb dX9_beside_12 (by decide) (fun c1 => ?_) (fun c1 => ?_)
    · have h := ite_t c1 h
      exact n62 x4 _ _ _ (lv_sub hl [4] rfl) hG h
    · have h := ite_f c1 h
      refine lv_iload hx hb dX9_beside_15 (lv_at hl 4 rfl) ?_
      refine lv_aload_n hx hb dX9_beside_17 rfl (lv_at hl 0 rfl) ?_
      refine gx_get (v := .ref (g.2.1 54)) (C := RX9) (T := TX9) (N := 44) hx hb hts mc_X9 hown hK hG (ga_50 g _) rfl 4 (by decide) hw1 rfl rfl dX9_beside_18 ?_
      refine lv_bipush (v := (32 : Int32)) hx hb dX9_beside_21 (by decide) ?_
      refine lv_iload_n hx hb dX9_beside_23 rfl (lv_at hl 2 rfl) ?_
      refine lv_imul hx hb dX9_beside_24 ?_
      refine lv_iload hx hb dX9_beside_25 (lv_at hl 5 rfl) ?_
      refine lv_iadd hx hb dX9_beside_27 ?_
      obtain ⟨hg2, h⟩ := gd_some h
      refine gx_zald (f := (σ.2.2.1 54)) hx hb hK hG (ga_54 g _) hg2 dX9_beside_28 ?_
      refine lv_if_eq (tgt := 52) hx hb dX9_beside_29 (by decide) (fun c3 => ?_) (fun c3 => ?_)
      · have h := ite_t c3 h
        exact n52 k6 hk6 x1 x2 x3 x5 x4 _ _ _ (lv_sub hl [0, 1, 2, 3, 5] rfl) hG h
      · have h := ite_f c3 h
        refine lv_aload_n hx hb dX9_beside_32 rfl (lv_at hl 0 rfl) ?_
        refine gx_get (v := .ref (g.2.1 59)) (C := RX9) (T := TX9) (N := 44) hx hb hts mc_X9 hown hK hG (ga_50 g _) rfl 13 (by decide) hw2 rfl rfl dX9_beside_33 ?_
        refine lv_bipush (v := (32 : Int32)) hx hb dX9_beside_36 (by decide) ?_
        refine lv_iload_n hx hb dX9_beside_38 rfl (lv_at hl 1 rfl) ?_
        refine lv_imul hx hb dX9_beside_39 ?_
        refine lv_iload hx hb dX9_beside_40 (lv_at hl 5 rfl) ?_
        refine lv_iadd hx hb dX9_beside_42 ?_
        obtain ⟨hg4, h⟩ := gd_some h
        refine gx_iald (f := (σ.2.2.1 59)) hx hb hK hG (ga_59 g _) hg4 dX9_beside_43 ?_
        refine lv_iload_n hx hb dX9_beside_44 rfl (lv_at hl 3 rfl) ?_
        refine lv_icmp_ne (tgt := 52) hx hb dX9_beside_45 (by decide) (fun c5 => ?_) (fun c5 => ?_)
        · have h := ite_f c5 h
          exact n52 k6 hk6 x1 x2 x3 x5 x4 _ _ _ (lv_sub hl [0, 1, 2, 3, 5] rfl) hG h
        · have h := ite_t c5 h
          refine lv_iconst (v := (1 : Int32)) hx hb dX9_beside_48 (by decide) ?_
          refine lv_goto (tgt := 53) hx hb dX9_beside_49 (by decide) ?_
          exact n53 k6 hk6 x1 x2 x3 x5 x4 (1 : Int32) _ _ _ (lv_sub hl [0, 1, 2, 3, 5] rfl) hG h
  have l6 : ∀  (F : Nat) (x1 : Int32) (x2 : Int32) (x3 : Int32) (x4 : Int32) (x5 : Int32) (H : Heap) (locs : List Loc) (ls : Array Slot), lv_has ls 6 [(0, .ref (g.2.1 50)), (1, .int x1), (2, .int x2), (3, .int x3), (4, .int x4), (5, .int x5)] → GW g s σ H locs → M_beside_l6 (σ.1 3203) (σ.2.2.1 54) (σ.2.2.1 59) F x1 x2 x3 x4 x5 = some r → Wg p l e 0 0 s m args below meth c g (some (.int r)) σ H locs (F0 m 6 ls []) := by
    intro F
    induction F with
    | zero => intro x1 x2 x3 x4 x5 H locs ls hl hG h; exact no_some h
    | succ F ih => intro x1 x2 x3 x4 x5 H locs ls hl hG h; exact n6 (fun x1 x2 x3 x4 x5 => M_beside_l6 (σ.1 3203) (σ.2.2.1 54) (σ.2.2.1 59) F x1 x2 x3 x4 x5) ih x1 x2 x3 x4 x5 H locs ls hl hG h
  refine lv_iconst (v := (0 : Int32)) hx hb dX9_beside_0 (by decide) ?_
  refine lv_istore (lv' := [(4, .int (0 : Int32)), (0, .ref (g.2.1 50)), (1, .int x1), (2, .int x2), (3, .int x3)]) hx hb dX9_beside_1 hl (Nat.le_of_ble_eq_true rfl) rfl (fun ls hl => ?_)
  refine lv_iconst (v := (0 : Int32)) hx hb dX9_beside_3 (by decide) ?_
  refine lv_istore (lv' := [(5, .int (0 : Int32)), (4, .int (0 : Int32)), (0, .ref (g.2.1 50)), (1, .int x1), (2, .int x2), (3, .int x3)]) hx hb dX9_beside_4 hl (Nat.le_of_ble_eq_true rfl) rfl (fun ls hl => ?_)
  exact l6 FUEL x1 x2 x3 (0 : Int32) (0 : Int32) _ _ _ (lv_sub hl [2, 3, 4, 5, 1, 0] rfl) hG h

set_option maxHeartbeats 4000000 in
set_option maxRecDepth 100000 in
theorem c_M_isLike (l : Launch) (g : GC) (σ : St) (r : Int32) (w_clashP : Int32) (w_clashQ : Int32) (w_far : Int32) (w_heaps : Int32) (w_isMeasured : Int32) (w_isTold : Nat → Int32) (w_tableA : Nat → Int32) (w_tableB : Nat → Int32) (w_tableC : Nat → Int32) (w_wayOf : Nat → Int32) (h : M_isLike (σ.1 3221) (σ.1 3222) (σ.1 3214) (σ.1 3215) (σ.1 3212) (σ.1 3203) (σ.2.2.1 64) (σ.2.2.1 54) (σ.2.2.1 62) (σ.2.2.1 63) (σ.2.2.1 61) (σ.2.2.1 59) = some (r, w_clashP, w_clashQ, w_far, w_heaps, w_isMeasured, w_isTold, w_tableA, w_tableB, w_tableC, w_wayOf)) : Cn l g yX9_isLike (Cond.code yX9_isLike cX9_isLike 7 (some .boolean) :: wG) 3 67 [.ref (g.2.1 50)] σ (some (.int r)) (mkS σ [(3221, w_clashP), (3222, w_clashQ), (3214, w_far), (3215, w_heaps), (3212, w_isMeasured)] [] [(64, w_isTold), (62, w_tableA), (63, w_tableB), (61, w_tableC), (59, w_wayOf)] []) := by
  unfold Cn
  refine Met.ofW (cc := cX9_isLike) (maxL := 7) (ret := (some .boolean)) (by decide) rfl ?_
  intro p e s m args below meth c s₁ B hml hv
  obtain ⟨hargs, hP0, hK⟩ := hv
  have hx := B.exec
  have hb := B.bytes
  have hr := B.returns
  have hts : ∀ w ∈ wG, w.before args s = true := fun w h => atoms_spec (ws := (Cond.code yX9_isLike cX9_isLike 7 (some .boolean) :: wG)) B.pre w (List.mem_cons_of_mem _ h)
  have hown : s.vm.findClass RX9 = some m.cls := findClass_of_methodNamed B.named
  have hlocks := B.notSynchronized
  have hS9 : CallFix p m c cX9_isLike 7 s args wG RX9 := ⟨hx, hb, hml, hown, hts⟩
  have hw0 := hts _ mw_4_160
  have hw1 := hts _ mw_4_161
  have hw2 := hts _ mw_4_142
  have hw3 := hts _ mw_4_152
  have hw4 := hts _ mw_4_159
  have hw5 := hts _ mw_4_156
  have hw6 := hts _ mw_4_157
  have hw7 := hts _ mw_4_158
  have hf9 : entryFrame m args 7 = _ := (congrArg (fun a => entryFrame m a 7) hargs).trans (lg_entry_eq m [.ref (g.2.1 50)] 7)
  show Wg p l e 3 67 s m args below meth c g (some (.int r)) (mkS σ [(3221, w_clashP), (3222, w_clashQ), (3214, w_far), (3215, w_heaps), (3212, w_isMeasured)] [] [(64, w_isTold), (62, w_tableA), (63, w_tableB), (61, w_tableC), (59, w_wayOf)] []) s.heap [] (entryFrame m args 7)
  rw [hf9]
  have hl := lv_entry ([.ref (g.2.1 50)]) (n := 7) (Nat.le_of_ble_eq_true rfl)
  generalize (lg_sl ([.ref (g.2.1 50)]) ++ List.replicate (7 - (lg_sl ([.ref (g.2.1 50)])).length) Slot.unset).toArray = ls at hl ⊢
  have hl : lv_has ls 7 [(0, .ref (g.2.1 50))] := hl
  have hG : GW g s σ s.heap [] := ⟨hP0, va_S.rf⟩
  have hG : GW g s (mkS σ [(3221, (σ.1 3221)), (3222, (σ.1 3222)), (3214, (σ.1 3214)), (3215, (σ.1 3215)), (3212, (σ.1 3212))] [] [(64, (σ.2.2.1 64)), (62, (σ.2.2.1 62)), (63, (σ.2.2.1 63)), (61, (σ.2.2.1 61)), (59, (σ.2.2.1 59))] []) s.heap [] := GW_self [3221, 3222, 3214, 3215, 3212] [] [64, 62, 63, 61, 59] [] hG
  unfold M_isLike at h
  have n169 : ∀ (x1 : Int32) (x2 : Int32) (v_clashP : Int32) (v_clashQ : Int32) (v_far : Int32) (v_heaps : Int32) (v_isMeasured : Int32) (v_isTold : Nat → Int32) (v_tableA : Nat → Int32) (v_tableB : Nat → Int32) (v_tableC : Nat → Int32) (v_wayOf : Nat → Int32) (H : Heap) (locs : List Loc) (ls : Array Slot), lv_has ls 7 [(0, .ref (g.2.1 50)), (1, .int x1), (2, .int x2)] → GW g s (mkS σ [(3221, v_clashP), (3222, v_clashQ), (3214, v_far), (3215, v_heaps), (3212, v_isMeasured)] [] [(64, v_isTold), (62, v_tableA), (63, v_tableB), (61, v_tableC), (59, v_wayOf)] []) H locs → M_isLike_n169 x1 x2 v_clashP v_clashQ v_far v_heaps v_isMeasured v_isTold v_tableA v_tableB v_tableC v_wayOf = some (r, w_clashP, w_clashQ, w_far, w_heaps, w_isMeasured, w_isTold, w_tableA, w_tableB, w_tableC, w_wayOf) → Wg p l e 3 67 s m args below meth c g (some (.int r)) (mkS σ [(3221, w_clashP), (3222, w_clashQ), (3214, w_far), (3215, w_heaps), (3212, w_isMeasured)] [] [(64, w_isTold), (62, w_tableA), (63, w_tableB), (61, w_tableC), (59, w_wayOf)] []) H locs (F0 m 169 ls []) := by
    intro x1 x2 v_clashP v_clashQ v_far v_heaps v_isMeasured v_isTold v_tableA v_tableB v_tableC v_wayOf H locs ls hl hG h
    unfold M_isLike_n169 at h
    refine lv_aload_n hx hb dX9_isLike_169 rfl (lv_at hl 0 rfl) ?_
    refine lv_iload_n hx hb dX9_isLike_170 rfl (lv_at hl 1 rfl) ?_
    refine gx_put (σ' := (mkS σ [(3221, x1), (3222, v_clashQ), (3214, v_far), (3215, v_heaps), (3212, v_isMeasured)] [] [(64, v_isTold), (62, v_tableA), (63, v_tableB), (61, v_tableC), (59, v_wayOf)] [])) (C := RX9) (T := TX9) (N := 44) hx hb hts mc_X9 tyX9 tyX9_ok nmX9 hown hK hG (ga_50 g _) rfl 21 (by decide) hw0 rfl rfl rfl rfl (Nat.le_of_ble_eq_true rfl) ((gf_3221 g _ _).trans (congrArg (g_cells g) (mk_a 0 rfl rfl))) dX9_isLike_171 (fun H locs hG => ?_)
    refine lv_aload_n hx hb dX9_isLike_174 rfl (lv_at hl 0 rfl) ?_
    refine lv_iload_n hx hb dX9_isLike_175 rfl (lv_at hl 2 rfl) ?_
    refine gx_put (σ' := (mkS σ [(3221, x1), (3222, x2), (3214, v_far), (3215, v_heaps), (3212, v_isMeasured)] [] [(64, v_isTold), (62, v_tableA), (63, v_tableB), (61, v_tableC), (59, v_wayOf)] [])) (C := RX9) (T := TX9) (N := 44) hx hb hts mc_X9 tyX9 tyX9_ok nmX9 hown hK hG (ga_50 g _) rfl 22 (by decide) hw1 rfl rfl rfl rfl (Nat.le_of_ble_eq_true rfl) ((gf_3222 g _ _).trans (congrArg (g_cells g) (mk_a 1 rfl rfl))) dX9_isLike_176 (fun H locs hG => ?_)
    refine lv_iconst (v := (0 : Int32)) hx hb dX9_isLike_179 (by decide) ?_
    cases h
    exact gx_zret hx hb hr hlocks (by decide) hG dX9_isLike_180
  have n181 : ∀ (k42 : Int32 → Int32 → Int32 → Int32 → Int32 → Int32 → Int32 → (Nat → Int32) → (Nat → Int32) → (Nat → Int32) → (Nat → Int32) → (Nat → Int32) → Option (Int32 × Int32 × Int32 × Int32 × Int32 × Int32 × (Nat → Int32) × (Nat → Int32) × (Nat → Int32) × (Nat → Int32) × (Nat → Int32))) (hk42 : ∀ (x1 : Int32) (x2 : Int32) (v_clashP : Int32) (v_clashQ : Int32) (v_far : Int32) (v_heaps : Int32) (v_isMeasured : Int32) (v_isTold : Nat → Int32) (v_tableA : Nat → Int32) (v_tableB : Nat → Int32) (v_tableC : Nat → Int32) (v_wayOf : Nat → Int32) (H : Heap) (locs : List Loc) (ls : Array Slot), lv_has ls 7 [(0, .ref (g.2.1 50)), (1, .int x1), (2, .int x2)] → GW g s (mkS σ [(3221, v_clashP), (3222, v_clashQ), (3214, v_far), (3215, v_heaps), (3212, v_isMeasured)] [] [(64, v_isTold), (62, v_tableA), (63, v_tableB), (61, v_tableC), (59, v_wayOf)] []) H locs → k42 x1 x2 v_clashP v_clashQ v_far v_heaps v_isMeasured v_isTold v_tableA v_tableB v_tableC v_wayOf = some (r, w_clashP, w_clashQ, w_far, w_heaps, w_isMeasured, w_isTold, w_tableA, w_tableB, w_tableC, w_wayOf) → Wg p l e 3 67 s m args below meth c g (some (.int r)) (mkS σ [(3221, w_clashP), (3222, w_clashQ), (3214, w_far), (3215, w_heaps), (3212, w_isMeasured)] [] [(64, w_isTold), (62, w_tableA), (63, w_tableB), (61, w_tableC), (59, w_wayOf)] []) H locs (F0 m 42 ls [])) (x1 : Int32) (x2 : Int32) (v_clashP : Int32) (v_clashQ : Int32) (v_far : Int32) (v_heaps : Int32) (v_isMeasured : Int32) (v_isTold : Nat → Int32) (v_tableA : Nat → Int32) (v_tableB : Nat → Int32) (v_tableC : Nat → Int32) (v_wayOf : Nat → Int32) (H : Heap) (locs : List Loc) (ls : Array Slot), lv_has ls 7 [(0, .ref (g.2.1 50)), (1, .int x1), (2, .int x2)] → GW g s (mkS σ [(3221, v_clashP), (3222, v_clashQ), (3214, v_far), (3215, v_heaps), (3212, v_isMeasured)] [] [(64, v_isTold), (62, v_tableA), (63, v_tableB), (61, v_tableC), (59, v_wayOf)] []) H locs → M_isLike_n181 k42 x1 x2 v_clashP v_clashQ v_far v_heaps v_isMeasured v_isTold v_tableA v_tableB v_tableC v_wayOf = some (r, w_clashP, w_clashQ, w_far, w_heaps, w_isMeasured, w_isTold, w_tableA, w_tableB, w_tableC, w_wayOf) → Wg p l e 3 67 s m args below meth c g (some (.int r)) (mkS σ [(3221, w_clashP), (3222, w_clashQ), (3214, w_far), (3215, w_heaps), (3212, w_isMeasured)] [] [(64, w_isTold), (62, w_tableA), (63, w_tableB), (61, w_tableC), (59, w_wayOf)] []) H locs (F0 m 181 ls []) := by
    intro k42 hk42 x1 x2 v_clashP v_clashQ v_far v_heaps v_isMeasured v_isTold v_tableA v_tableB v_tableC v_wayOf H locs ls hl hG h
    unfold M_isLike_n181 at h
    refine lv_iinc (v := (x2 + (1 : Int32))) (lv' := [(2, .int (x2 + (1 : Int32))), (0, .ref (g.2.1 50)), (1, .int x1)]) hx hb dX9_isLike_181 hl (k := 2) rfl (congrArg (fun z => x2 + z) (by decide)) (Nat.le_of_ble_eq_true rfl) rfl (fun ls hl => ?_)
    refine lv_goto (tgt := 42) hx hb dX9_isLike_184 (by decide) ?_
    exact hk42 x1 (x2 + (1 : Int32)) v_clashP v_clashQ v_far v_heaps v_isMeasured v_isTold v_tableA v_tableB v_tableC v_wayOf _ _ _ (lv_sub hl [1, 2, 0] rfl) hG h
  have n187 : ∀ (k32 : Int32 → Int32 → Int32 → Int32 → Int32 → Int32 → (Nat → Int32) → (Nat → Int32) → (Nat → Int32) → (Nat → Int32) → (Nat → Int32) → Option (Int32 × Int32 × Int32 × Int32 × Int32 × Int32 × (Nat → Int32) × (Nat → Int32) × (Nat → Int32) × (Nat → Int32) × (Nat → Int32))) (hk32 : ∀ (x1 : Int32) (v_clashP : Int32) (v_clashQ : Int32) (v_far : Int32) (v_heaps : Int32) (v_isMeasured : Int32) (v_isTold : Nat → Int32) (v_tableA : Nat → Int32) (v_tableB : Nat → Int32) (v_tableC : Nat → Int32) (v_wayOf : Nat → Int32) (H : Heap) (locs : List Loc) (ls : Array Slot), lv_has ls 7 [(0, .ref (g.2.1 50)), (1, .int x1)] → GW g s (mkS σ [(3221, v_clashP), (3222, v_clashQ), (3214, v_far), (3215, v_heaps), (3212, v_isMeasured)] [] [(64, v_isTold), (62, v_tableA), (63, v_tableB), (61, v_tableC), (59, v_wayOf)] []) H locs → k32 x1 v_clashP v_clashQ v_far v_heaps v_isMeasured v_isTold v_tableA v_tableB v_tableC v_wayOf = some (r, w_clashP, w_clashQ, w_far, w_heaps, w_isMeasured, w_isTold, w_tableA, w_tableB, w_tableC, w_wayOf) → Wg p l e 3 67 s m args below meth c g (some (.int r)) (mkS σ [(3221, w_clashP), (3222, w_clashQ), (3214, w_far), (3215, w_heaps), (3212, w_isMeasured)] [] [(64, w_isTold), (62, w_tableA), (63, w_tableB), (61, w_tableC), (59, w_wayOf)] []) H locs (F0 m 32 ls [])) (x1 : Int32) (v_clashP : Int32) (v_clashQ : Int32) (v_far : Int32) (v_heaps : Int32) (v_isMeasured : Int32) (v_isTold : Nat → Int32) (v_tableA : Nat → Int32) (v_tableB : Nat → Int32) (v_tableC : Nat → Int32) (v_wayOf : Nat → Int32) (H : Heap) (locs : List Loc) (ls : Array Slot), lv_has ls 7 [(0, .ref (g.2.1 50)), (1, .int x1)] → GW g s (mkS σ [(3221, v_clashP), (3222, v_clashQ), (3214, v_far), (3215, v_heaps), (3212, v_isMeasured)] [] [(64, v_isTold), (62, v_tableA), (63, v_tableB), (61, v_tableC), (59, v_wayOf)] []) H locs → M_isLike_n187 k32 x1 v_clashP v_clashQ v_far v_heaps v_isMeasured v_isTold v_tableA v_tableB v_tableC v_wayOf = some (r, w_clashP, w_clashQ, w_far, w_heaps, w_isMeasured, w_isTold, w_tableA, w_tableB, w_tableC, w_wayOf) → Wg p l e 3 67 s m args below meth c g (some (.int r)) (mkS σ [(3221, w_clashP), (3222, w_clashQ), (3214, w_far), (3215, w_heaps), (3212, w_isMeasured)] [] [(64, w_isTold), (62, w_tableA), (63, w_tableB), (61, w_tableC), (59, w_wayOf)] []) H locs (F0 m 187 ls []) := by
    intro k32 hk32 x1 v_clashP v_clashQ v_far v_heaps v_isMeasured v_isTold v_tableA v_tableB v_tableC v_wayOf H locs ls hl hG h
    unfold M_isLike_n187 at h
    refine lv_iinc (v := (x1 + (1 : Int32))) (lv' := [(1, .int (x1 + (1 : Int32))), (0, .ref (g.2.1 50))]) hx hb dX9_isLike_187 hl (k := 1) rfl (congrArg (fun z => x1 + z) (by decide)) (Nat.le_of_ble_eq_true rfl) rfl (fun ls hl => ?_)
    refine lv_goto (tgt := 32) hx hb dX9_isLike_190 (by decide) ?_
    exact hk32 (x1 + (1 : Int32)) v_clashP v_clashQ v_far v_heaps v_isMeasured v_isTold v_tableA v_tableB v_tableC v_wayOf _ _ _ (lv_sub hl [1, 0] rfl) hG h
  have n42 : ∀ (k32 : Int32 → Int32 → Int32 → Int32 → Int32 → Int32 → (Nat → Int32) → (Nat → Int32) → (Nat → Int32) → (Nat → Int32) → (Nat → Int32) → Option (Int32 × Int32 × Int32 × Int32 × Int32 × Int32 × (Nat → Int32) × (Nat → Int32) × (Nat → Int32) × (Nat → Int32) × (Nat → Int32))) (hk32 : ∀ (x1 : Int32) (v_clashP : Int32) (v_clashQ : Int32) (v_far : Int32) (v_heaps : Int32) (v_isMeasured : Int32) (v_isTold : Nat → Int32) (v_tableA : Nat → Int32) (v_tableB : Nat → Int32) (v_tableC : Nat → Int32) (v_wayOf : Nat → Int32) (H : Heap) (locs : List Loc) (ls : Array Slot), lv_has ls 7 [(0, .ref (g.2.1 50)), (1, .int x1)] → GW g s (mkS σ [(3221, v_clashP), (3222, v_clashQ), (3214, v_far), (3215, v_heaps), (3212, v_isMeasured)] [] [(64, v_isTold), (62, v_tableA), (63, v_tableB), (61, v_tableC), (59, v_wayOf)] []) H locs → k32 x1 v_clashP v_clashQ v_far v_heaps v_isMeasured v_isTold v_tableA v_tableB v_tableC v_wayOf = some (r, w_clashP, w_clashQ, w_far, w_heaps, w_isMeasured, w_isTold, w_tableA, w_tableB, w_tableC, w_wayOf) → Wg p l e 3 67 s m args below meth c g (some (.int r)) (mkS σ [(3221, w_clashP), (3222, w_clashQ), (3214, w_far), (3215, w_heaps), (3212, w_isMeasured)] [] [(64, w_isTold), (62, w_tableA), (63, w_tableB), (61, w_tableC), (59, w_wayOf)] []) H locs (F0 m 32 ls [])) (k42 : Int32 → Int32 → Int32 → Int32 → Int32 → Int32 → Int32 → (Nat → Int32) → (Nat → Int32) → (Nat → Int32) → (Nat → Int32) → (Nat → Int32) → Option (Int32 × Int32 × Int32 × Int32 × Int32 × Int32 × (Nat → Int32) × (Nat → Int32) × (Nat → Int32) × (Nat → Int32) × (Nat → Int32))) (hk42 : ∀ (x1 : Int32) (x2 : Int32) (v_clashP : Int32) (v_clashQ : Int32) (v_far : Int32) (v_heaps : Int32) (v_isMeasured : Int32) (v_isTold : Nat → Int32) (v_tableA : Nat → Int32) (v_tableB : Nat → Int32) (v_tableC : Nat → Int32) (v_wayOf : Nat → Int32) (H : Heap) (locs : List Loc) (ls : Array Slot), lv_has ls 7 [(0, .ref (g.2.1 50)), (1, .int x1), (2, .int x2)] → GW g s (mkS σ [(3221, v_clashP), (3222, v_clashQ), (3214, v_far), (3215, v_heaps), (3212, v_isMeasured)] [] [(64, v_isTold), (62, v_tableA), (63, v_tableB), (61, v_tableC), (59, v_wayOf)] []) H locs → k42 x1 x2 v_clashP v_clashQ v_far v_heaps v_isMeasured v_isTold v_tableA v_tableB v_tableC v_wayOf = some (r, w_clashP, w_clashQ, w_far, w_heaps, w_isMeasured, w_isTold, w_tableA, w_tableB, w_tableC, w_wayOf) → Wg p l e 3 67 s m args below meth c g (some (.int r)) (mkS σ [(3221, w_clashP), (3222, w_clashQ), (3214, w_far), (3215, w_heaps), (3212, w_isMeasured)] [] [(64, w_isTold), (62, w_tableA), (63, w_tableB), (61, w_tableC), (59, w_wayOf)] []) H locs (F0 m 42 ls [])) (x1 : Int32) (x2 : Int32) (v_clashP : Int32) (v_clashQ : Int32) (v_far : Int32) (v_heaps : Int32) (v_isMeasured : Int32) (v_isTold : Nat → Int32) (v_tableA : Nat → Int32) (v_tableB : Nat → Int32) (v_tableC : Nat → Int32) (v_wayOf : Nat → Int32) (H : Heap) (locs : List Loc) (ls : Array Slot), lv_has ls 7 [(0, .ref (g.2.1 50)), (1, .int x1), (2, .int x2)] → GW g s (mkS σ [(3221, v_clashP), (3222, v_clashQ), (3214, v_far), (3215, v_heaps), (3212, v_isMeasured)] [] [(64, v_isTold), (62, v_tableA), (63, v_tableB), (61, v_tableC), (59, v_wayOf)] []) H locs → M_isLike_n42 k32 k42 (σ.1 3203) (σ.2.2.1 54) x1 x2 v_clashP v_clashQ v_far v_heaps v_isMeasured v_isTold v_tableA v_tableB v_tableC v_wayOf = some (r, w_clashP, w_clashQ, w_far, w_heaps, w_isMeasured, w_isTold, w_tableA, w_tableB, w_tableC, w_wayOf) → Wg p l e 3 67 s m args below meth c g (some (.int r)) (mkS σ [(3221, w_clashP), (3222, w_clashQ), (3214, w_far), (3215, w_heaps), (3212, w_isMeasured)] [] [(64, w_isTold), (62, w_tableA), (63, w_tableB), (61, w_tableC), (59, w_wayOf)] []) H locs (F0 m 42 ls []) := by
    intro k32 hk32 k42 hk42 x1 x2 v_clashP v_clashQ v_far v_heaps v_isMeasured v_isTold v_tableA v_tableB v_tableC v_wayOf H locs ls hl hG h
    unfold M_isLike_n42 at h
    refine lv_iload_n hx hb dX9_isLike_42 rfl (lv_at hl 2 rfl) ?_
    refine lv_aload_n hx hb dX9_isLike_43 rfl (lv_at hl 0 rfl) ?_
    refine gx_get (v := .int (σ.1 3203)) (C := RX9) (T := TX9) (N := 44) hx hb hts mc_X9 hown hK hG (ga_50 g _) rfl 3 (by decide) hw2 rfl rfl dX9_isLike_44 ?_
    refine lv_icmp_ge (tgt := 187) hx hb dX9_isLike_47 (by decide) (fun c1 => ?_) (fun c1 => ?_)
    · have h := ite_t c1 h
      exact n187 k32 hk32 x1 v_clashP v_clashQ v_far v_heaps v_isMeasured v_isTold v_tableA v_tableB v_tableC v_wayOf _ _ _ (lv_sub hl [0, 1] rfl) hG h
    · have h := ite_f c1 h
      refine lv_aload_n hx hb dX9_isLike_50 rfl (lv_at hl 0 rfl) ?_
      refine gx_get (v := .ref (g.2.1 59)) (C := RX9) (T := TX9) (N := 44) hx hb hts mc_X9 hown hK hG (ga_50 g _) rfl 13 (by decide) hw3 rfl rfl dX9_isLike_51 ?_
      refine lv_bipush (v := (32 : Int32)) hx hb dX9_isLike_54 (by decide) ?_
      refine lv_iload_n hx hb dX9_isLike_56 rfl (lv_at hl 1 rfl) ?_
      refine lv_imul hx hb dX9_isLike_57 ?_
      refine lv_iload_n hx hb dX9_isLike_58 rfl (lv_at hl 2 rfl) ?_
      refine lv_iadd hx hb dX9_isLike_59 ?_
      obtain ⟨hg2, h⟩ := gd_some h
      refine gx_iald (f := v_wayOf) hx hb hK hG (ga_59 g _) hg2 dX9_isLike_60 ?_
      refine lv_istore_n (lv' := [(3, .int (v_wayOf ((((32 : Int32) * x1) + x2).toNatClampNeg))), (0, .ref (g.2.1 50)), (1, .int x1), (2, .int x2)]) hx hb dX9_isLike_61 rfl hl (Nat.le_of_ble_eq_true rfl) rfl (fun ls hl => ?_)
      refine lv_aload_n hx hb dX9_isLike_62 rfl (lv_at hl 1 rfl) ?_
      refine lv_iload_n hx hb dX9_isLike_63 rfl (lv_at hl 2 rfl) ?_
      refine lv_iload_n hx hb dX9_isLike_64 rfl (lv_at hl 3 rfl) ?_
      refine lv_iload_n hx hb dX9_isLike_65 rfl (lv_at hl 0 rfl) ?_
      refine lv_iconst (v := (1 : Int32)) hx hb dX9_isLike_66 (by decide) ?_
      refine lv_isub hx hb dX9_isLike_67 ?_
      obtain ⟨z3, hc4, h⟩ := bnd_some h
      refine gx_cV (σ' := (mkS σ [(3221, v_clashP), (3222, v_clashQ), (3214, v_far), (3215, v_heaps), (3212, v_isMeasured)] [] [(64, v_isTold), (62, v_tableA), (63, v_tableB), (61, v_tableC), (59, v_wayOf)] [])) (r := (some (.int z3))) (rest := []) (As := [.int x1, .int x2, .int ((v_wayOf ((((32 : Int32) * x1) + x2).toNatClampNeg)) - (1 : Int32))]) hS9 (c_M_beside l g (mkS σ [(3221, v_clashP), (3222, v_clashQ), (3214, v_far), (3215, v_heaps), (3212, v_isMeasured)] [] [(64, v_isTold), (62, v_tableA), (63, v_tableB), (61, v_tableC), (59, v_wayOf)] []) x1 x2 ((v_wayOf ((((32 : Int32) * x1) + x2).toNatClampNeg)) - (1 : Int32)) z3 hc4) rfl (cwV 3 hts (gz_V mw_5_169 mw_5_171 ms_4_5 mw_1_11 mw_5_172) rfl rfl rfl hdV_X9_beside ⟨Nat.le_of_ble_eq_true rfl, Nat.le_of_ble_eq_true rfl⟩) hK hG (ga_50 g _) rfl rfl rfl hl.1 rfl (Nat.le_of_ble_eq_true rfl) dX9_isLike_68 (fun H locs hG => ?_)
      refine W.eq (g2 := F0 m 71 ls [.int z3]) rfl ?_
      refine lv_istore (lv' := [(4, .int z3), (3, .int (v_wayOf ((((32 : Int32) * x1) + x2).toNatClampNeg))), (0, .ref (g.2.1 50)), (1, .int x1), (2, .int x2)]) hx hb dX9_isLike_71 hl (Nat.le_of_ble_eq_true rfl) rfl (fun ls hl => ?_)
      refine lv_aload_n hx hb dX9_isLike_73 rfl (lv_at hl 2 rfl) ?_
      refine lv_iload_n hx hb dX9_isLike_74 rfl (lv_at hl 3 rfl) ?_
      refine lv_iload_n hx hb dX9_isLike_75 rfl (lv_at hl 4 rfl) ?_
      refine lv_iload_n hx hb dX9_isLike_76 rfl (lv_at hl 1 rfl) ?_
      obtain ⟨z5, hc6, h⟩ := bnd_some h
      refine gx_cV (σ' := (mkS σ [(3221, v_clashP), (3222, v_clashQ), (3214, v_far), (3215, v_heaps), (3212, v_isMeasured)] [] [(64, v_isTold), (62, v_tableA), (63, v_tableB), (61, v_tableC), (59, v_wayOf)] [])) (r := (some (.int z5))) (rest := []) (As := [.int x1, .int x2, .int (v_wayOf ((((32 : Int32) * x1) + x2).toNatClampNeg))]) hS9 (c_M_beside l g (mkS σ [(3221, v_clashP), (3222, v_clashQ), (3214, v_far), (3215, v_heaps), (3212, v_isMeasured)] [] [(64, v_isTold), (62, v_tableA), (63, v_tableB), (61, v_tableC), (59, v_wayOf)] []) x1 x2 (v_wayOf ((((32 : Int32) * x1) + x2).toNatClampNeg)) z5 hc6) rfl (cwV 3 hts (gz_V mw_5_169 mw_5_171 ms_4_5 mw_1_11 mw_5_172) rfl rfl rfl hdV_X9_beside ⟨Nat.le_of_ble_eq_true rfl, Nat.le_of_ble_eq_true rfl⟩) hK hG (ga_50 g _) rfl rfl rfl hl.1 rfl (Nat.le_of_ble_eq_true rfl) dX9_isLike_77 (fun H locs hG => ?_)
      refine W.eq (g2 := F0 m 80 ls [.int z5]) rfl ?_
      refine lv_istore (lv' := [(5, .int z5), (4, .int z3), (3, .int (v_wayOf ((((32 : Int32) * x1) + x2).toNatClampNeg))), (0, .ref (g.2.1 50)), (1, .int x1), (2, .int x2)]) hx hb dX9_isLike_80 hl (Nat.le_of_ble_eq_true rfl) rfl (fun ls hl => ?_)
      refine lv_aload_n hx hb dX9_isLike_82 rfl (lv_at hl 3 rfl) ?_
      refine lv_iload_n hx hb dX9_isLike_83 rfl (lv_at hl 4 rfl) ?_
      refine lv_iload_n hx hb dX9_isLike_84 rfl (lv_at hl 5 rfl) ?_
      refine lv_iload_n hx hb dX9_isLike_85 rfl (lv_at hl 2 rfl) ?_
      refine lv_iconst (v := (1 : Int32)) hx hb dX9_isLike_86 (by decide) ?_
      refine lv_iadd hx hb dX9_isLike_87 ?_
      obtain ⟨z7, hc8, h⟩ := bnd_some h
      refine gx_cV (σ' := (mkS σ [(3221, v_clashP), (3222, v_clashQ), (3214, v_far), (3215, v_heaps), (3212, v_isMeasured)] [] [(64, v_isTold), (62, v_tableA), (63, v_tableB), (61, v_tableC), (59, v_wayOf)] [])) (r := (some (.int z7))) (rest := []) (As := [.int x1, .int x2, .int ((v_wayOf ((((32 : Int32) * x1) + x2).toNatClampNeg)) + (1 : Int32))]) hS9 (c_M_beside l g (mkS σ [(3221, v_clashP), (3222, v_clashQ), (3214, v_far), (3215, v_heaps), (3212, v_isMeasured)] [] [(64, v_isTold), (62, v_tableA), (63, v_tableB), (61, v_tableC), (59, v_wayOf)] []) x1 x2 ((v_wayOf ((((32 : Int32) * x1) + x2).toNatClampNeg)) + (1 : Int32)) z7 hc8) rfl (cwV 3 hts (gz_V mw_5_169 mw_5_171 ms_4_5 mw_1_11 mw_5_172) rfl rfl rfl hdV_X9_beside ⟨Nat.le_of_ble_eq_true rfl, Nat.le_of_ble_eq_true rfl⟩) hK hG (ga_50 g _) rfl rfl rfl hl.1 rfl (Nat.le_of_ble_eq_true rfl) dX9_isLike_88 (fun H locs hG => ?_)
      refine W.eq (g2 := F0 m 91 ls [.int z7]) rfl ?_
      refine lv_istore (lv' := [(6, .int z7), (5, .int z5), (4, .int z3), (3, .int (v_wayOf ((((32 : Int32) * x1) + x2).toNatClampNeg))), (0, .ref (g.2.1 50)), (1, .int x1), (2, .int x2)]) hx hb dX9_isLike_91 hl (Nat.le_of_ble_eq_true rfl) rfl (fun ls hl => ?_)
      refine lv_aload_n hx hb dX9_isLike_93 rfl (lv_at hl 4 rfl) ?_
      refine gx_get (v := .ref (g.2.1 64)) (C := RX9) (T := TX9) (N := 44) hx hb hts mc_X9 hown hK hG (ga_50 g _) rfl 20 (by decide) hw4 rfl rfl dX9_isLike_94 ?_
      refine lv_iload_n hx hb dX9_isLike_97 rfl (lv_at hl 3 rfl) ?_
      obtain ⟨hg9, h⟩ := gd_some h
      refine gx_zald (f := v_isTold) hx hb hK hG (ga_64 g _) hg9 dX9_isLike_98 ?_
      refine lv_if_ne (tgt := 136) hx hb dX9_isLike_99 (by decide) (fun c10 => ?_) (fun c10 => ?_)
      · have h := ite_f c10 h
        refine lv_iload hx hb dX9_isLike_136 (lv_at hl 2 rfl) ?_
        refine lv_aload_n hx hb dX9_isLike_138 rfl (lv_at hl 4 rfl) ?_
        refine gx_get (v := .ref (g.2.1 61)) (C := RX9) (T := TX9) (N := 44) hx hb hts mc_X9 hown hK hG (ga_50 g _) rfl 17 (by decide) hw5 rfl rfl dX9_isLike_139 ?_
        refine lv_iload_n hx hb dX9_isLike_142 rfl (lv_at hl 3 rfl) ?_
        refine gx_iald (f := v_tableC) hx hb hK hG (ga_61 g _) hg9 dX9_isLike_143 ?_
        refine lv_icmp_ne (tgt := 169) hx hb dX9_isLike_144 (by decide) (fun c11 => ?_) (fun c11 => ?_)
        · have h := ite_f c11 h
          exact n169 x1 x2 v_clashP v_clashQ v_far v_heaps v_isMeasured v_isTold v_tableA v_tableB v_tableC v_wayOf _ _ _ (lv_sub hl [4, 5, 6] rfl) hG h
        · have h := ite_t c11 h
          refine lv_iload hx hb dX9_isLike_147 (lv_at hl 1 rfl) ?_
          refine lv_aload_n hx hb dX9_isLike_149 rfl (lv_at hl 4 rfl) ?_
          refine gx_get (v := .ref (g.2.1 62)) (C := RX9) (T := TX9) (N := 44) hx hb hts mc_X9 hown hK hG (ga_50 g _) rfl 18 (by decide) hw6 rfl rfl dX9_isLike_150 ?_
          refine lv_iload_n hx hb dX9_isLike_153 rfl (lv_at hl 3 rfl) ?_
          refine gx_iald (f := v_tableA) hx hb hK hG (ga_62 g _) hg9 dX9_isLike_154 ?_
          refine lv_icmp_ne (tgt := 169) hx hb dX9_isLike_155 (by decide) (fun c12 => ?_) (fun c12 => ?_)
          · have h := ite_f c12 h
            exact n169 x1 x2 v_clashP v_clashQ v_far v_heaps v_isMeasured v_isTold v_tableA v_tableB v_tableC v_wayOf _ _ _ (lv_sub hl [4, 5, 6] rfl) hG h
          · have h := ite_t c12 h
            refine lv_iload hx hb dX9_isLike_158 (lv_at hl 0 rfl) ?_
            refine lv_aload_n hx hb dX9_isLike_160 rfl (lv_at hl 4 rfl) ?_
            refine gx_get (v := .ref (g.2.1 63)) (C := RX9) (T := TX9) (N := 44) hx hb hts mc_X9 hown hK hG (ga_50 g _) rfl 19 (by decide) hw7 rfl rfl dX9_isLike_161 ?_
            refine lv_iload_n hx hb dX9_isLike_164 rfl (lv_at hl 3 rfl) ?_
            refine gx_iald (f := v_tableB) hx hb hK hG (ga_63 g _) hg9 dX9_isLike_165 ?_
            refine lv_icmp_eq (tgt := 181) hx hb dX9_isLike_166 (by decide) (fun c13 => ?_) (fun c13 => ?_)
            · have h := ite_t c13 h
              exact n181 k42 hk42 x1 x2 v_clashP v_clashQ v_far v_heaps v_isMeasured v_isTold v_tableA v_tableB v_tableC v_wayOf _ _ _ (lv_sub hl [4, 5, 6] rfl) hG h
            · have h := ite_f c13 h
              exact n169 x1 x2 v_clashP v_clashQ v_far v_heaps v_isMeasured v_isTold v_tableA v_tableB v_tableC v_wayOf _ _ _ (lv_sub hl [4, 5, 6] rfl) hG h
      · have h := ite_t c10 h
        refine lv_aload_n hx hb dX9_isLike_102 rfl (lv_at hl 4 rfl) ?_
        refine gx_get (v := .ref (g.2.1 64)) (C := RX9) (T := TX9) (N := 44) hx hb hts mc_X9 hown hK hG (ga_50 g _) rfl 20 (by decide) hw4 rfl rfl dX9_isLike_103 ?_
        refine lv_iload_n hx hb dX9_isLike_106 rfl (lv_at hl 3 rfl) ?_
        refine lv_iconst (v := (1 : Int32)) hx hb dX9_isLike_107 (by decide) ?_
        refine gx_zast (σ' := (mkS σ [(3221, v_clashP), (3222, v_clashQ), (3214, v_far), (3215, v_heaps), (3212, v_isMeasured)] [] [(64, (upd v_isTold ((v_wayOf ((((32 : Int32) * x1) + x2).toNatClampNeg)).toNatClampNeg) (1 : Int32))), (62, v_tableA), (63, v_tableB), (61, v_tableC), (59, v_wayOf)] [])) (f := v_isTold) hx hb hK hG (ga_64 g _) hg9 (by decide) ((gs_64 g _ _).trans (congrArg (g_cells g) (mk_c 0 rfl rfl))) dX9_isLike_108 (fun H locs hG => ?_)
        refine lv_aload_n hx hb dX9_isLike_109 rfl (lv_at hl 4 rfl) ?_
        refine gx_get (v := .ref (g.2.1 61)) (C := RX9) (T := TX9) (N := 44) hx hb hts mc_X9 hown hK hG (ga_50 g _) rfl 17 (by decide) hw5 rfl rfl dX9_isLike_110 ?_
        refine lv_iload_n hx hb dX9_isLike_113 rfl (lv_at hl 3 rfl) ?_
        refine lv_iload hx hb dX9_isLike_114 (lv_at hl 2 rfl) ?_
        refine gx_iast (σ' := (mkS σ [(3221, v_clashP), (3222, v_clashQ), (3214, v_far), (3215, v_heaps), (3212, v_isMeasured)] [] [(64, (upd v_isTold ((v_wayOf ((((32 : Int32) * x1) + x2).toNatClampNeg)).toNatClampNeg) (1 : Int32))), (62, v_tableA), (63, v_tableB), (61, (upd v_tableC ((v_wayOf ((((32 : Int32) * x1) + x2).toNatClampNeg)).toNatClampNeg) z3)), (59, v_wayOf)] [])) (f := v_tableC) hx hb hK hG (ga_61 g _) hg9 ((gs_61 g _ _).trans (congrArg (g_cells g) (mk_c 3 rfl rfl))) dX9_isLike_116 (fun H locs hG => ?_)
        refine lv_aload_n hx hb dX9_isLike_117 rfl (lv_at hl 4 rfl) ?_
        refine gx_get (v := .ref (g.2.1 62)) (C := RX9) (T := TX9) (N := 44) hx hb hts mc_X9 hown hK hG (ga_50 g _) rfl 18 (by decide) hw6 rfl rfl dX9_isLike_118 ?_
        refine lv_iload_n hx hb dX9_isLike_121 rfl (lv_at hl 3 rfl) ?_
        refine lv_iload hx hb dX9_isLike_122 (lv_at hl 1 rfl) ?_
        refine gx_iast (σ' := (mkS σ [(3221, v_clashP), (3222, v_clashQ), (3214, v_far), (3215, v_heaps), (3212, v_isMeasured)] [] [(64, (upd v_isTold ((v_wayOf ((((32 : Int32) * x1) + x2).toNatClampNeg)).toNatClampNeg) (1 : Int32))), (62, (upd v_tableA ((v_wayOf ((((32 : Int32) * x1) + x2).toNatClampNeg)).toNatClampNeg) z5)), (63, v_tableB), (61, (upd v_tableC ((v_wayOf ((((32 : Int32) * x1) + x2).toNatClampNeg)).toNatClampNeg) z3)), (59, v_wayOf)] [])) (f := v_tableA) hx hb hK hG (ga_62 g _) hg9 ((gs_62 g _ _).trans (congrArg (g_cells g) (mk_c 1 rfl rfl))) dX9_isLike_124 (fun H locs hG => ?_)
        refine lv_aload_n hx hb dX9_isLike_125 rfl (lv_at hl 4 rfl) ?_
        refine gx_get (v := .ref (g.2.1 63)) (C := RX9) (T := TX9) (N := 44) hx hb hts mc_X9 hown hK hG (ga_50 g _) rfl 19 (by decide) hw7 rfl rfl dX9_isLike_126 ?_
        refine lv_iload_n hx hb dX9_isLike_129 rfl (lv_at hl 3 rfl) ?_
        refine lv_iload hx hb dX9_isLike_130 (lv_at hl 0 rfl) ?_
        refine gx_iast (σ' := (mkS σ [(3221, v_clashP), (3222, v_clashQ), (3214, v_far), (3215, v_heaps), (3212, v_isMeasured)] [] [(64, (upd v_isTold ((v_wayOf ((((32 : Int32) * x1) + x2).toNatClampNeg)).toNatClampNeg) (1 : Int32))), (62, (upd v_tableA ((v_wayOf ((((32 : Int32) * x1) + x2).toNatClampNeg)).toNatClampNeg) z5)), (63, (upd v_tableB ((v_wayOf ((((32 : Int32) * x1) + x2).toNatClampNeg)).toNatClampNeg) z7)), (61, (upd v_tableC ((v_wayOf ((((32 : Int32) * x1) + x2).toNatClampNeg)).toNatClampNeg) z3)), (59, v_wayOf)] [])) (f := v_tableB) hx hb hK hG (ga_63 g _) hg9 ((gs_63 g _ _).trans (congrArg (g_cells g) (mk_c 2 rfl rfl))) dX9_isLike_132 (fun H locs hG => ?_)
        refine lv_goto (tgt := 181) hx hb dX9_isLike_133 (by decide) ?_
        exact n181 k42 hk42 x1 x2 v_clashP v_clashQ v_far v_heaps v_isMeasured (upd v_isTold ((v_wayOf ((((32 : Int32) * x1) + x2).toNatClampNeg)).toNatClampNeg) (1 : Int32)) (upd v_tableA ((v_wayOf ((((32 : Int32) * x1) + x2).toNatClampNeg)).toNatClampNeg) z5) (upd v_tableB ((v_wayOf ((((32 : Int32) * x1) + x2).toNatClampNeg)).toNatClampNeg) z7) (upd v_tableC ((v_wayOf ((((32 : Int32) * x1) + x2).toNatClampNeg)).toNatClampNeg) z3) v_wayOf _ _ _ (lv_sub hl [4, 5, 6] rfl) hG h
  have l42 : ∀ (k32 : Int32 → Int32 → Int32 → Int32 → Int32 → Int32 → (Nat → Int32) → (Nat → Int32) → (Nat → Int32) → (Nat → Int32) → (Nat → Int32) → Option (Int32 × Int32 × Int32 × Int32 × Int32 × Int32 × (Nat → Int32) × (Nat → Int32) × (Nat → Int32) × (Nat → Int32) × (Nat → Int32))) (hk32 : ∀ (x1 : Int32) (v_clashP : Int32) (v_clashQ : Int32) (v_far : Int32) (v_heaps : Int32) (v_isMeasured : Int32) (v_isTold : Nat → Int32) (v_tableA : Nat → Int32) (v_tableB : Nat → Int32) (v_tableC : Nat → Int32) (v_wayOf : Nat → Int32) (H : Heap) (locs : List Loc) (ls : Array Slot), lv_has ls 7 [(0, .ref (g.2.1 50)), (1, .int x1)] → GW g s (mkS σ [(3221, v_clashP), (3222, v_clashQ), (3214, v_far), (3215, v_heaps), (3212, v_isMeasured)] [] [(64, v_isTold), (62, v_tableA), (63, v_tableB), (61, v_tableC), (59, v_wayOf)] []) H locs → k32 x1 v_clashP v_clashQ v_far v_heaps v_isMeasured v_isTold v_tableA v_tableB v_tableC v_wayOf = some (r, w_clashP, w_clashQ, w_far, w_heaps, w_isMeasured, w_isTold, w_tableA, w_tableB, w_tableC, w_wayOf) → Wg p l e 3 67 s m args below meth c g (some (.int r)) (mkS σ [(3221, w_clashP), (3222, w_clashQ), (3214, w_far), (3215, w_heaps), (3212, w_isMeasured)] [] [(64, w_isTold), (62, w_tableA), (63, w_tableB), (61, w_tableC), (59, w_wayOf)] []) H locs (F0 m 32 ls [])) (F : Nat) (x1 : Int32) (x2 : Int32) (v_clashP : Int32) (v_clashQ : Int32) (v_far : Int32) (v_heaps : Int32) (v_isMeasured : Int32) (v_isTold : Nat → Int32) (v_tableA : Nat → Int32) (v_tableB : Nat → Int32) (v_tableC : Nat → Int32) (v_wayOf : Nat → Int32) (H : Heap) (locs : List Loc) (ls : Array Slot), lv_has ls 7 [(0, .ref (g.2.1 50)), (1, .int x1), (2, .int x2)] → GW g s (mkS σ [(3221, v_clashP), (3222, v_clashQ), (3214, v_far), (3215, v_heaps), (3212, v_isMeasured)] [] [(64, v_isTold), (62, v_tableA), (63, v_tableB), (61, v_tableC), (59, v_wayOf)] []) H locs → M_isLike_l42 k32 (σ.1 3203) (σ.2.2.1 54) F x1 x2 v_clashP v_clashQ v_far v_heaps v_isMeasured v_isTold v_tableA v_tableB v_tableC v_wayOf = some (r, w_clashP, w_clashQ, w_far, w_heaps, w_isMeasured, w_isTold, w_tableA, w_tableB, w_tableC, w_wayOf) → Wg p l e 3 67 s m args below meth c g (some (.int r)) (mkS σ [(3221, w_clashP), (3222, w_clashQ), (3214, w_far), (3215, w_heaps), (3212, w_isMeasured)] [] [(64, w_isTold), (62, w_tableA), (63, w_tableB), (61, w_tableC), (59, w_wayOf)] []) H locs (F0 m 42 ls []) := by
    intro k32 hk32 F
    induction F with
    | zero => intro x1 x2 v_clashP v_clashQ v_far v_heaps v_isMeasured v_isTold v_tableA v_tableB v_tableC v_wayOf H locs ls hl hG h; exact no_some h
    | succ F ih => intro x1 x2 v_clashP v_clashQ v_far v_heaps v_isMeasured v_isTold v_tableA v_tableB v_tableC v_wayOf H locs ls hl hG h; exact n42 k32 hk32 (fun x1 x2 v_clashP v_clashQ v_far v_heaps v_isMeasured v_isTold v_tableA v_tableB v_tableC v_wayOf => M_isLike_l42 k32 (σ.1 3203) (σ.2.2.1 54) F x1 x2 v_clashP v_clashQ v_far v_heaps v_isMeasured v_isTold v_tableA v_tableB v_tableC v_wayOf) ih x1 x2 v_clashP v_clashQ v_far v_heaps v_isMeasured v_isTold v_tableA v_tableB v_tableC v_wayOf H locs ls hl hG h
  have n193 : ∀ (v_clashP : Int32) (v_clashQ : Int32) (v_far : Int32) (v_heaps : Int32) (v_isMeasured : Int32) (v_isTold : Nat → Int32) (v_tableA : Nat → Int32) (v_tableB : Nat → Int32) (v_tableC : Nat → Int32) (v_wayOf : Nat → Int32) (H : Heap) (locs : List Loc) (ls : Array Slot), lv_has ls 7 [] → GW g s (mkS σ [(3221, v_clashP), (3222, v_clashQ), (3214, v_far), (3215, v_heaps), (3212, v_isMeasured)] [] [(64, v_isTold), (62, v_tableA), (63, v_tableB), (61, v_tableC), (59, v_wayOf)] []) H locs → M_isLike_n193 v_clashP v_clashQ v_far v_heaps v_isMeasured v_isTold v_tableA v_tableB v_tableC v_wayOf = some (r, w_clashP, w_clashQ, w_far, w_heaps, w_isMeasured, w_isTold, w_tableA, w_tableB, w_tableC, w_wayOf) → Wg p l e 3 67 s m args below meth c g (some (.int r)) (mkS σ [(3221, w_clashP), (3222, w_clashQ), (3214, w_far), (3215, w_heaps), (3212, w_isMeasured)] [] [(64, w_isTold), (62, w_tableA), (63, w_tableB), (61, w_tableC), (59, w_wayOf)] []) H locs (F0 m 193 ls []) := by
    intro v_clashP v_clashQ v_far v_heaps v_isMeasured v_isTold v_tableA v_tableB v_tableC v_wayOf H locs ls hl hG h
    unfold M_isLike_n193 at h
    refine lv_iconst (v := (1 : Int32)) hx hb dX9_isLike_193 (by decide) ?_
    cases h
    exact gx_zret hx hb hr hlocks (by decide) hG dX9_isLike_194
  have n32 : ∀ (k32 : Int32 → Int32 → Int32 → Int32 → Int32 → Int32 → (Nat → Int32) → (Nat → Int32) → (Nat → Int32) → (Nat → Int32) → (Nat → Int32) → Option (Int32 × Int32 × Int32 × Int32 × Int32 × Int32 × (Nat → Int32) × (Nat → Int32) × (Nat → Int32) × (Nat → Int32) × (Nat → Int32))) (hk32 : ∀ (x1 : Int32) (v_clashP : Int32) (v_clashQ : Int32) (v_far : Int32) (v_heaps : Int32) (v_isMeasured : Int32) (v_isTold : Nat → Int32) (v_tableA : Nat → Int32) (v_tableB : Nat → Int32) (v_tableC : Nat → Int32) (v_wayOf : Nat → Int32) (H : Heap) (locs : List Loc) (ls : Array Slot), lv_has ls 7 [(0, .ref (g.2.1 50)), (1, .int x1)] → GW g s (mkS σ [(3221, v_clashP), (3222, v_clashQ), (3214, v_far), (3215, v_heaps), (3212, v_isMeasured)] [] [(64, v_isTold), (62, v_tableA), (63, v_tableB), (61, v_tableC), (59, v_wayOf)] []) H locs → k32 x1 v_clashP v_clashQ v_far v_heaps v_isMeasured v_isTold v_tableA v_tableB v_tableC v_wayOf = some (r, w_clashP, w_clashQ, w_far, w_heaps, w_isMeasured, w_isTold, w_tableA, w_tableB, w_tableC, w_wayOf) → Wg p l e 3 67 s m args below meth c g (some (.int r)) (mkS σ [(3221, w_clashP), (3222, w_clashQ), (3214, w_far), (3215, w_heaps), (3212, w_isMeasured)] [] [(64, w_isTold), (62, w_tableA), (63, w_tableB), (61, w_tableC), (59, w_wayOf)] []) H locs (F0 m 32 ls [])) (x1 : Int32) (v_clashP : Int32) (v_clashQ : Int32) (v_far : Int32) (v_heaps : Int32) (v_isMeasured : Int32) (v_isTold : Nat → Int32) (v_tableA : Nat → Int32) (v_tableB : Nat → Int32) (v_tableC : Nat → Int32) (v_wayOf : Nat → Int32) (H : Heap) (locs : List Loc) (ls : Array Slot), lv_has ls 7 [(0, .ref (g.2.1 50)), (1, .int x1)] → GW g s (mkS σ [(3221, v_clashP), (3222, v_clashQ), (3214, v_far), (3215, v_heaps), (3212, v_isMeasured)] [] [(64, v_isTold), (62, v_tableA), (63, v_tableB), (61, v_tableC), (59, v_wayOf)] []) H locs → M_isLike_n32 k32 (σ.1 3203) (σ.2.2.1 54) x1 v_clashP v_clashQ v_far v_heaps v_isMeasured v_isTold v_tableA v_tableB v_tableC v_wayOf = some (r, w_clashP, w_clashQ, w_far, w_heaps, w_isMeasured, w_isTold, w_tableA, w_tableB, w_tableC, w_wayOf) → Wg p l e 3 67 s m args below meth c g (some (.int r)) (mkS σ [(3221, w_clashP), (3222, w_clashQ), (3214, w_far), (3215, w_heaps), (3212, w_isMeasured)] [] [(64, w_isTold), (62, w_tableA), (63, w_tableB), (61, w_tableC), (59, w_wayOf)] []) H locs (F0 m 32 ls []) := by
    intro k32 hk32 x1 v_clashP v_clashQ v_far v_heaps v_isMeasured v_isTold v_tableA v_tableB v_tableC v_wayOf H locs ls hl hG h
    unfold M_isLike_n32 at h
    refine lv_iload_n hx hb dX9_isLike_32 rfl (lv_at hl 1 rfl) ?_
    refine lv_aload_n hx hb dX9_isLike_33 rfl (lv_at hl 0 rfl) ?_
    refine gx_get (v := .int (σ.1 3203)) (C := RX9) (T := TX9) (N := 44) hx hb hts mc_X9 hown hK hG (ga_50 g _) rfl 3 (by decide) hw2 rfl rfl dX9_isLike_34 ?_
    refine lv_icmp_ge (tgt := 193) hx hb dX9_isLike_37 (by decide) (fun c14 => ?_) (fun c14 => ?_)
    · have h := ite_t c14 h
      exact n193 v_clashP v_clashQ v_far v_heaps v_isMeasured v_isTold v_tableA v_tableB v_tableC v_wayOf _ _ _ (lv_sub hl [] rfl) hG h
    · have h := ite_f c14 h
      refine lv_iconst (v := (0 : Int32)) hx hb dX9_isLike_40 (by decide) ?_
      refine lv_istore_n (lv' := [(2, .int (0 : Int32)), (0, .ref (g.2.1 50)), (1, .int x1)]) hx hb dX9_isLike_41 rfl hl (Nat.le_of_ble_eq_true rfl) rfl (fun ls hl => ?_)
      exact l42 k32 hk32 FUEL x1 (0 : Int32) v_clashP v_clashQ v_far v_heaps v_isMeasured v_isTold v_tableA v_tableB v_tableC v_wayOf _ _ _ (lv_sub hl [1, 2, 0] rfl) hG h
  have l32 : ∀  (F : Nat) (x1 : Int32) (v_clashP : Int32) (v_clashQ : Int32) (v_far : Int32) (v_heaps : Int32) (v_isMeasured : Int32) (v_isTold : Nat → Int32) (v_tableA : Nat → Int32) (v_tableB : Nat → Int32) (v_tableC : Nat → Int32) (v_wayOf : Nat → Int32) (H : Heap) (locs : List Loc) (ls : Array Slot), lv_has ls 7 [(0, .ref (g.2.1 50)), (1, .int x1)] → GW g s (mkS σ [(3221, v_clashP), (3222, v_clashQ), (3214, v_far), (3215, v_heaps), (3212, v_isMeasured)] [] [(64, v_isTold), (62, v_tableA), (63, v_tableB), (61, v_tableC), (59, v_wayOf)] []) H locs → M_isLike_l32 (σ.1 3203) (σ.2.2.1 54) F x1 v_clashP v_clashQ v_far v_heaps v_isMeasured v_isTold v_tableA v_tableB v_tableC v_wayOf = some (r, w_clashP, w_clashQ, w_far, w_heaps, w_isMeasured, w_isTold, w_tableA, w_tableB, w_tableC, w_wayOf) → Wg p l e 3 67 s m args below meth c g (some (.int r)) (mkS σ [(3221, w_clashP), (3222, w_clashQ), (3214, w_far), (3215, w_heaps), (3212, w_isMeasured)] [] [(64, w_isTold), (62, w_tableA), (63, w_tableB), (61, w_tableC), (59, w_wayOf)] []) H locs (F0 m 32 ls []) := by
    intro F
    induction F with
    | zero => intro x1 v_clashP v_clashQ v_far v_heaps v_isMeasured v_isTold v_tableA v_tableB v_tableC v_wayOf H locs ls hl hG h; exact no_some h
    | succ F ih => intro x1 v_clashP v_clashQ v_far v_heaps v_isMeasured v_isTold v_tableA v_tableB v_tableC v_wayOf H locs ls hl hG h; exact n32 (fun x1 v_clashP v_clashQ v_far v_heaps v_isMeasured v_isTold v_tableA v_tableB v_tableC v_wayOf => M_isLike_l32 (σ.1 3203) (σ.2.2.1 54) F x1 v_clashP v_clashQ v_far v_heaps v_isMeasured v_isTold v_tableA v_tableB v_tableC v_wayOf) ih x1 v_clashP v_clashQ v_far v_heaps v_isMeasured v_isTold v_tableA v_tableB v_tableC v_wayOf H locs ls hl hG h
  have n30 : ∀ (v_clashP : Int32) (v_clashQ : Int32) (v_far : Int32) (v_heaps : Int32) (v_isMeasured : Int32) (v_isTold : Nat → Int32) (v_tableA : Nat → Int32) (v_tableB : Nat → Int32) (v_tableC : Nat → Int32) (v_wayOf : Nat → Int32) (H : Heap) (locs : List Loc) (ls : Array Slot), lv_has ls 7 [(0, .ref (g.2.1 50))] → GW g s (mkS σ [(3221, v_clashP), (3222, v_clashQ), (3214, v_far), (3215, v_heaps), (3212, v_isMeasured)] [] [(64, v_isTold), (62, v_tableA), (63, v_tableB), (61, v_tableC), (59, v_wayOf)] []) H locs → M_isLike_n30 (σ.1 3203) (σ.2.2.1 54) v_clashP v_clashQ v_far v_heaps v_isMeasured v_isTold v_tableA v_tableB v_tableC v_wayOf = some (r, w_clashP, w_clashQ, w_far, w_heaps, w_isMeasured, w_isTold, w_tableA, w_tableB, w_tableC, w_wayOf) → Wg p l e 3 67 s m args below meth c g (some (.int r)) (mkS σ [(3221, w_clashP), (3222, w_clashQ), (3214, w_far), (3215, w_heaps), (3212, w_isMeasured)] [] [(64, w_isTold), (62, w_tableA), (63, w_tableB), (61, w_tableC), (59, w_wayOf)] []) H locs (F0 m 30 ls []) := by
    intro v_clashP v_clashQ v_far v_heaps v_isMeasured v_isTold v_tableA v_tableB v_tableC v_wayOf H locs ls hl hG h
    unfold M_isLike_n30 at h
    refine lv_iconst (v := (0 : Int32)) hx hb dX9_isLike_30 (by decide) ?_
    refine lv_istore_n (lv' := [(1, .int (0 : Int32)), (0, .ref (g.2.1 50))]) hx hb dX9_isLike_31 rfl hl (Nat.le_of_ble_eq_true rfl) rfl (fun ls hl => ?_)
    exact l32 FUEL (0 : Int32) v_clashP v_clashQ v_far v_heaps v_isMeasured v_isTold v_tableA v_tableB v_tableC v_wayOf _ _ _ (lv_sub hl [1, 0] rfl) hG h
  have n11 : ∀ (k11 : Int32 → Int32 → Int32 → Int32 → Int32 → Int32 → (Nat → Int32) → (Nat → Int32) → (Nat → Int32) → (Nat → Int32) → (Nat → Int32) → Option (Int32 × Int32 × Int32 × Int32 × Int32 × Int32 × (Nat → Int32) × (Nat → Int32) × (Nat → Int32) × (Nat → Int32) × (Nat → Int32))) (hk11 : ∀ (x1 : Int32) (v_clashP : Int32) (v_clashQ : Int32) (v_far : Int32) (v_heaps : Int32) (v_isMeasured : Int32) (v_isTold : Nat → Int32) (v_tableA : Nat → Int32) (v_tableB : Nat → Int32) (v_tableC : Nat → Int32) (v_wayOf : Nat → Int32) (H : Heap) (locs : List Loc) (ls : Array Slot), lv_has ls 7 [(0, .ref (g.2.1 50)), (1, .int x1)] → GW g s (mkS σ [(3221, v_clashP), (3222, v_clashQ), (3214, v_far), (3215, v_heaps), (3212, v_isMeasured)] [] [(64, v_isTold), (62, v_tableA), (63, v_tableB), (61, v_tableC), (59, v_wayOf)] []) H locs → k11 x1 v_clashP v_clashQ v_far v_heaps v_isMeasured v_isTold v_tableA v_tableB v_tableC v_wayOf = some (r, w_clashP, w_clashQ, w_far, w_heaps, w_isMeasured, w_isTold, w_tableA, w_tableB, w_tableC, w_wayOf) → Wg p l e 3 67 s m args below meth c g (some (.int r)) (mkS σ [(3221, w_clashP), (3222, w_clashQ), (3214, w_far), (3215, w_heaps), (3212, w_isMeasured)] [] [(64, w_isTold), (62, w_tableA), (63, w_tableB), (61, w_tableC), (59, w_wayOf)] []) H locs (F0 m 11 ls [])) (x1 : Int32) (v_clashP : Int32) (v_clashQ : Int32) (v_far : Int32) (v_heaps : Int32) (v_isMeasured : Int32) (v_isTold : Nat → Int32) (v_tableA : Nat → Int32) (v_tableB : Nat → Int32) (v_tableC : Nat → Int32) (v_wayOf : Nat → Int32) (H : Heap) (locs : List Loc) (ls : Array Slot), lv_has ls 7 [(0, .ref (g.2.1 50)), (1, .int x1)] → GW g s (mkS σ [(3221, v_clashP), (3222, v_clashQ), (3214, v_far), (3215, v_heaps), (3212, v_isMeasured)] [] [(64, v_isTold), (62, v_tableA), (63, v_tableB), (61, v_tableC), (59, v_wayOf)] []) H locs → M_isLike_n11 k11 (σ.1 3203) (σ.2.2.1 54) x1 v_clashP v_clashQ v_far v_heaps v_isMeasured v_isTold v_tableA v_tableB v_tableC v_wayOf = some (r, w_clashP, w_clashQ, w_far, w_heaps, w_isMeasured, w_isTold, w_tableA, w_tableB, w_tableC, w_wayOf) → Wg p l e 3 67 s m args below meth c g (some (.int r)) (mkS σ [(3221, w_clashP), (3222, w_clashQ), (3214, w_far), (3215, w_heaps), (3212, w_isMeasured)] [] [(64, w_isTold), (62, w_tableA), (63, w_tableB), (61, w_tableC), (59, w_wayOf)] []) H locs (F0 m 11 ls []) := by
    intro k11 hk11 x1 v_clashP v_clashQ v_far v_heaps v_isMeasured v_isTold v_tableA v_tableB v_tableC v_wayOf H locs ls hl hG h
    unfold M_isLike_n11 at h
    refine lv_iload_n hx hb dX9_isLike_11 rfl (lv_at hl 1 rfl) ?_
    refine lv_bipush (v := (33 : Int32)) hx hb dX9_isLike_12 (by decide) ?_
    refine lv_icmp_ge (tgt := 30) hx hb dX9_isLike_14 (by decide) (fun c15 => ?_) (fun c15 => ?_)
    · have h := ite_t c15 h
      exact n30 v_clashP v_clashQ v_far v_heaps v_isMeasured v_isTold v_tableA v_tableB v_tableC v_wayOf _ _ _ (lv_sub hl [0] rfl) hG h
    · have h := ite_f c15 h
      refine lv_aload_n hx hb dX9_isLike_17 rfl (lv_at hl 0 rfl) ?_
      refine gx_get (v := .ref (g.2.1 64)) (C := RX9) (T := TX9) (N := 44) hx hb hts mc_X9 hown hK hG (ga_50 g _) rfl 20 (by decide) hw4 rfl rfl dX9_isLike_18 ?_
      refine lv_iload_n hx hb dX9_isLike_21 rfl (lv_at hl 1 rfl) ?_
      refine lv_iconst (v := (0 : Int32)) hx hb dX9_isLike_22 (by decide) ?_
      obtain ⟨hg16, h⟩ := gd_some h
      refine gx_zast (σ' := (mkS σ [(3221, v_clashP), (3222, v_clashQ), (3214, v_far), (3215, v_heaps), (3212, v_isMeasured)] [] [(64, (upd v_isTold (x1.toNatClampNeg) (0 : Int32))), (62, v_tableA), (63, v_tableB), (61, v_tableC), (59, v_wayOf)] [])) (f := v_isTold) hx hb hK hG (ga_64 g _) hg16 (by decide) ((gs_64 g _ _).trans (congrArg (g_cells g) (mk_c 0 rfl rfl))) dX9_isLike_23 (fun H locs hG => ?_)
      refine lv_iinc (v := (x1 + (1 : Int32))) (lv' := [(1, .int (x1 + (1 : Int32))), (0, .ref (g.2.1 50))]) hx hb dX9_isLike_24 hl (k := 1) rfl (congrArg (fun z => x1 + z) (by decide)) (Nat.le_of_ble_eq_true rfl) rfl (fun ls hl => ?_)
      refine lv_goto (tgt := 11) hx hb dX9_isLike_27 (by decide) ?_
      exact hk11 (x1 + (1 : Int32)) v_clashP v_clashQ v_far v_heaps v_isMeasured (upd v_isTold (x1.toNatClampNeg) (0 : Int32)) v_tableA v_tableB v_tableC v_wayOf _ _ _ (lv_sub hl [1, 0] rfl) hG h
  have l11 : ∀  (F : Nat) (x1 : Int32) (v_clashP : Int32) (v_clashQ : Int32) (v_far : Int32) (v_heaps : Int32) (v_isMeasured : Int32) (v_isTold : Nat → Int32) (v_tableA : Nat → Int32) (v_tableB : Nat → Int32) (v_tableC : Nat → Int32) (v_wayOf : Nat → Int32) (H : Heap) (locs : List Loc) (ls : Array Slot), lv_has ls 7 [(0, .ref (g.2.1 50)), (1, .int x1)] → GW g s (mkS σ [(3221, v_clashP), (3222, v_clashQ), (3214, v_far), (3215, v_heaps), (3212, v_isMeasured)] [] [(64, v_isTold), (62, v_tableA), (63, v_tableB), (61, v_tableC), (59, v_wayOf)] []) H locs → M_isLike_l11 (σ.1 3203) (σ.2.2.1 54) F x1 v_clashP v_clashQ v_far v_heaps v_isMeasured v_isTold v_tableA v_tableB v_tableC v_wayOf = some (r, w_clashP, w_clashQ, w_far, w_heaps, w_isMeasured, w_isTold, w_tableA, w_tableB, w_tableC, w_wayOf) → Wg p l e 3 67 s m args below meth c g (some (.int r)) (mkS σ [(3221, w_clashP), (3222, w_clashQ), (3214, w_far), (3215, w_heaps), (3212, w_isMeasured)] [] [(64, w_isTold), (62, w_tableA), (63, w_tableB), (61, w_tableC), (59, w_wayOf)] []) H locs (F0 m 11 ls []) := by
    intro F
    induction F with
    | zero => intro x1 v_clashP v_clashQ v_far v_heaps v_isMeasured v_isTold v_tableA v_tableB v_tableC v_wayOf H locs ls hl hG h; exact no_some h
    | succ F ih => intro x1 v_clashP v_clashQ v_far v_heaps v_isMeasured v_isTold v_tableA v_tableB v_tableC v_wayOf H locs ls hl hG h; exact n11 (fun x1 v_clashP v_clashQ v_far v_heaps v_isMeasured v_isTold v_tableA v_tableB v_tableC v_wayOf => M_isLike_l11 (σ.1 3203) (σ.2.2.1 54) F x1 v_clashP v_clashQ v_far v_heaps v_isMeasured v_isTold v_tableA v_tableB v_tableC v_wayOf) ih x1 v_clashP v_clashQ v_far v_heaps v_isMeasured v_isTold v_tableA v_tableB v_tableC v_wayOf H locs ls hl hG h
  refine lv_aload_n hx hb dX9_isLike_0 rfl (lv_at hl 0 rfl) ?_
  obtain ⟨z17, hc18, h⟩ := bnd_some h
  refine gx_cV (σ' := (mkS σ [(3221, (σ.1 3221)), (3222, (σ.1 3222)), (3214, z17.2.1), (3215, z17.2.2.1), (3212, z17.2.2.2.1)] [] [(64, (σ.2.2.1 64)), (62, (σ.2.2.1 62)), (63, (σ.2.2.1 63)), (61, (σ.2.2.1 61)), (59, z17.2.2.2.2)] [])) (r := (some (.int z17.1))) (rest := []) (As := []) hS9 (c_M_isWhole l g (mkS σ [(3221, (σ.1 3221)), (3222, (σ.1 3222)), (3214, (σ.1 3214)), (3215, (σ.1 3215)), (3212, (σ.1 3212))] [] [(64, (σ.2.2.1 64)), (62, (σ.2.2.1 62)), (63, (σ.2.2.1 63)), (61, (σ.2.2.1 61)), (59, (σ.2.2.1 59))] []) z17.1 z17.2.1 z17.2.2.1 z17.2.2.2.1 z17.2.2.2.2 hc18) (mk_mk rfl rfl rfl rfl) (cwV 0 hts (gz_V mw_5_157 mw_5_159 ms_4_2 mw_1_11 mw_5_160) rfl rfl rfl hdV_X9_isWhole ⟨Nat.le_of_ble_eq_true rfl, Nat.le_of_ble_eq_true rfl⟩) hK hG (ga_50 g _) rfl rfl rfl hl.1 rfl (Nat.le_of_ble_eq_true rfl) dX9_isLike_1 (fun H locs hG => ?_)
  refine W.eq (g2 := F0 m 4 ls [.int z17.1]) rfl ?_
  refine lv_if_ne (tgt := 9) hx hb dX9_isLike_4 (by decide) (fun c19 => ?_) (fun c19 => ?_)
  · have h := ite_f c19 h
    refine lv_iconst (v := (0 : Int32)) hx hb dX9_isLike_9 (by decide) ?_
    refine lv_istore_n (lv' := [(1, .int (0 : Int32)), (0, .ref (g.2.1 50))]) hx hb dX9_isLike_10 rfl hl (Nat.le_of_ble_eq_true rfl) rfl (fun ls hl => ?_)
    exact l11 FUEL (0 : Int32) (σ.1 3221) (σ.1 3222) z17.2.1 z17.2.2.1 z17.2.2.2.1 (σ.2.2.1 64) (σ.2.2.1 62) (σ.2.2.1 63) (σ.2.2.1 61) z17.2.2.2.2 _ _ _ (lv_sub hl [1, 0] rfl) hG h
  · have h := ite_t c19 h
    refine lv_iconst (v := (0 : Int32)) hx hb dX9_isLike_7 (by decide) ?_
    cases h
    exact gx_zret hx hb hr hlocks (by decide) hG dX9_isLike_8

set_option maxHeartbeats 4000000 in
set_option maxRecDepth 100000 in
theorem c_M_clash (l : Launch) (g : GC) (σ : St) (x1 : Int32) (r : Int32) (w_clashP : Int32) (w_clashQ : Int32) (w_far : Int32) (w_heaps : Int32) (w_isMeasured : Int32) (w_isTold : Nat → Int32) (w_tableA : Nat → Int32) (w_tableB : Nat → Int32) (w_tableC : Nat → Int32) (w_wayOf : Nat → Int32) (h : M_clash x1 (σ.1 3221) (σ.1 3222) (σ.1 3214) (σ.1 3215) (σ.1 3212) (σ.1 3203) (σ.2.2.1 64) (σ.2.2.1 54) (σ.2.2.1 62) (σ.2.2.1 63) (σ.2.2.1 61) (σ.2.2.1 59) = some (r, w_clashP, w_clashQ, w_far, w_heaps, w_isMeasured, w_isTold, w_tableA, w_tableB, w_tableC, w_wayOf)) : Cn l g yX9_clash (Cond.code yX9_clash cX9_clash 2 (some .int) :: wG) 4 93 [.ref (g.2.1 50), .int x1] σ (some (.int r)) (mkS σ [(3221, w_clashP), (3222, w_clashQ), (3214, w_far), (3215, w_heaps), (3212, w_isMeasured)] [] [(64, w_isTold), (62, w_tableA), (63, w_tableB), (61, w_tableC), (59, w_wayOf)] []) := by
  unfold Cn
  refine Met.ofW (cc := cX9_clash) (maxL := 2) (ret := (some .int)) (by decide) rfl ?_
  intro p e s m args below meth c s₁ B hml hv
  obtain ⟨hargs, hP0, hK⟩ := hv
  have hx := B.exec
  have hb := B.bytes
  have hr := B.returns
  have hts : ∀ w ∈ wG, w.before args s = true := fun w h => atoms_spec (ws := (Cond.code yX9_clash cX9_clash 2 (some .int) :: wG)) B.pre w (List.mem_cons_of_mem _ h)
  have hown : s.vm.findClass RX9 = some m.cls := findClass_of_methodNamed B.named
  have hlocks := B.notSynchronized
  have hS9 : CallFix p m c cX9_clash 2 s args wG RX9 := ⟨hx, hb, hml, hown, hts⟩
  have hw0 := hts _ mw_4_161
  have hw1 := hts _ mw_4_160
  have hf9 : entryFrame m args 2 = _ := (congrArg (fun a => entryFrame m a 2) hargs).trans (lg_entry_eq m [.ref (g.2.1 50), .int x1] 2)
  show Wg p l e 4 93 s m args below meth c g (some (.int r)) (mkS σ [(3221, w_clashP), (3222, w_clashQ), (3214, w_far), (3215, w_heaps), (3212, w_isMeasured)] [] [(64, w_isTold), (62, w_tableA), (63, w_tableB), (61, w_tableC), (59, w_wayOf)] []) s.heap [] (entryFrame m args 2)
  rw [hf9]
  have hl := lv_entry ([.ref (g.2.1 50), .int x1]) (n := 2) (Nat.le_of_ble_eq_true rfl)
  generalize (lg_sl ([.ref (g.2.1 50), .int x1]) ++ List.replicate (2 - (lg_sl ([.ref (g.2.1 50), .int x1])).length) Slot.unset).toArray = ls at hl ⊢
  have hl : lv_has ls 2 [(0, .ref (g.2.1 50)), (1, .int x1)] := hl
  have hG : GW g s σ s.heap [] := ⟨hP0, va_S.rf⟩
  have hG : GW g s (mkS σ [(3221, (σ.1 3221)), (3222, (σ.1 3222)), (3214, (σ.1 3214)), (3215, (σ.1 3215)), (3212, (σ.1 3212))] [] [(64, (σ.2.2.1 64)), (62, (σ.2.2.1 62)), (63, (σ.2.2.1 63)), (61, (σ.2.2.1 61)), (59, (σ.2.2.1 59))] []) s.heap [] := GW_self [3221, 3222, 3214, 3215, 3212] [] [64, 62, 63, 61, 59] [] hG
  unfold M_clash at h
  have n49 : ∀ (t0 : Int32) (v_clashP : Int32) (v_clashQ : Int32) (v_far : Int32) (v_heaps : Int32) (v_isMeasured : Int32) (v_isTold : Nat → Int32) (v_tableA : Nat → Int32) (v_tableB : Nat → Int32) (v_tableC : Nat → Int32) (v_wayOf : Nat → Int32) (H : Heap) (locs : List Loc) (ls : Array Slot), lv_has ls 2 [] → GW g s (mkS σ [(3221, v_clashP), (3222, v_clashQ), (3214, v_far), (3215, v_heaps), (3212, v_isMeasured)] [] [(64, v_isTold), (62, v_tableA), (63, v_tableB), (61, v_tableC), (59, v_wayOf)] []) H locs → M_clash_n49 t0 v_clashP v_clashQ v_far v_heaps v_isMeasured v_isTold v_tableA v_tableB v_tableC v_wayOf = some (r, w_clashP, w_clashQ, w_far, w_heaps, w_isMeasured, w_isTold, w_tableA, w_tableB, w_tableC, w_wayOf) → Wg p l e 4 93 s m args below meth c g (some (.int r)) (mkS σ [(3221, w_clashP), (3222, w_clashQ), (3214, w_far), (3215, w_heaps), (3212, w_isMeasured)] [] [(64, w_isTold), (62, w_tableA), (63, w_tableB), (61, w_tableC), (59, w_wayOf)] []) H locs (F0 m 49 ls [.int t0]) := by
    intro t0 v_clashP v_clashQ v_far v_heaps v_isMeasured v_isTold v_tableA v_tableB v_tableC v_wayOf H locs ls hl hG h
    unfold M_clash_n49 at h
    cases h
    exact gx_iret hx hb hr hlocks hG dX9_clash_49
  refine lv_iload_n hx hb dX9_clash_0 rfl (lv_at hl 1 rfl) ?_
  refine lv_i2l hx hb dX9_clash_1 rfl ?_
  refine lv_lconst (v := (0 : Int64)) hx hb dX9_clash_2 (by decide) ?_
  refine lv_lconst (v := (1 : Int64)) hx hb dX9_clash_3 (by decide) ?_
  obtain ⟨z1, hc2, h⟩ := bnd_some h
  refine gx_cS (σ' := (mkS σ [(3221, (σ.1 3221)), (3222, (σ.1 3222)), (3214, (σ.1 3214)), (3215, (σ.1 3215)), (3212, (σ.1 3212))] [] [(64, (σ.2.2.1 64)), (62, (σ.2.2.1 62)), (63, (σ.2.2.1 63)), (61, (σ.2.2.1 61)), (59, (σ.2.2.1 59))] [])) (r := (some (.int z1))) (rest := []) (As := [.long (x1.toInt64), .long (0 : Int64), .long (1 : Int64)]) hS9 (c_M_in l g (mkS σ [(3221, (σ.1 3221)), (3222, (σ.1 3222)), (3214, (σ.1 3214)), (3215, (σ.1 3215)), (3212, (σ.1 3212))] [] [(64, (σ.2.2.1 64)), (62, (σ.2.2.1 62)), (63, (σ.2.2.1 63)), (61, (σ.2.2.1 61)), (59, (σ.2.2.1 59))] []) (x1.toInt64) (0 : Int64) (1 : Int64) z1 hc2) rfl (va_cwS 3 hts (gz_S mw_5_41 mw_5_42 mw_1_11 mw_5_43) rfl rfl rfl hdS_X9_in ⟨Nat.le_of_ble_eq_true rfl, Nat.le_of_ble_eq_true rfl⟩) hK hG rfl hl.1 rfl (Nat.le_of_ble_eq_true rfl) dX9_clash_4 (fun H locs hG => ?_)
  refine W.eq (g2 := F0 m 7 ls [.int z1]) rfl ?_
  refine lv_if_ne (tgt := 12) hx hb dX9_clash_7 (by decide) (fun c3 => ?_) (fun c3 => ?_)
  · have h := ite_f c3 h
    refine lv_aload_n hx hb dX9_clash_12 rfl (lv_at hl 0 rfl) ?_
    obtain ⟨z4, hc5, h⟩ := bnd_some h
    refine gx_cV (σ' := (mkS σ [(3221, (σ.1 3221)), (3222, (σ.1 3222)), (3214, z4.2.1), (3215, z4.2.2.1), (3212, z4.2.2.2.1)] [] [(64, (σ.2.2.1 64)), (62, (σ.2.2.1 62)), (63, (σ.2.2.1 63)), (61, (σ.2.2.1 61)), (59, z4.2.2.2.2)] [])) (r := (some (.int z4.1))) (rest := []) (As := []) hS9 (c_M_isWhole l g (mkS σ [(3221, (σ.1 3221)), (3222, (σ.1 3222)), (3214, (σ.1 3214)), (3215, (σ.1 3215)), (3212, (σ.1 3212))] [] [(64, (σ.2.2.1 64)), (62, (σ.2.2.1 62)), (63, (σ.2.2.1 63)), (61, (σ.2.2.1 61)), (59, (σ.2.2.1 59))] []) z4.1 z4.2.1 z4.2.2.1 z4.2.2.2.1 z4.2.2.2.2 hc5) (mk_mk rfl rfl rfl rfl) (cwV 0 hts (gz_V mw_5_157 mw_5_159 ms_4_2 mw_1_11 mw_5_160) rfl rfl rfl hdV_X9_isWhole ⟨Nat.le_of_ble_eq_true rfl, Nat.le_of_ble_eq_true rfl⟩) hK hG (ga_50 g _) rfl rfl rfl hl.1 rfl (Nat.le_of_ble_eq_true rfl) dX9_clash_13 (fun H locs hG => ?_)
    refine W.eq (g2 := F0 m 16 ls [.int z4.1]) rfl ?_
    refine lv_if_ne (tgt := 22) hx hb dX9_clash_16 (by decide) (fun c6 => ?_) (fun c6 => ?_)
    · have h := ite_f c6 h
      refine lv_aload_n hx hb dX9_clash_22 rfl (lv_at hl 0 rfl) ?_
      obtain ⟨z7, hc8, h⟩ := bnd_some h
      refine gx_cV (σ' := (mkS σ [(3221, z7.2.1), (3222, z7.2.2.1), (3214, z7.2.2.2.1), (3215, z7.2.2.2.2.1), (3212, z7.2.2.2.2.2.1)] [] [(64, z7.2.2.2.2.2.2.1), (62, z7.2.2.2.2.2.2.2.1), (63, z7.2.2.2.2.2.2.2.2.1), (61, z7.2.2.2.2.2.2.2.2.2.1), (59, z7.2.2.2.2.2.2.2.2.2.2)] [])) (r := (some (.int z7.1))) (rest := []) (As := []) hS9 (c_M_isLike l g (mkS σ [(3221, (σ.1 3221)), (3222, (σ.1 3222)), (3214, z4.2.1), (3215, z4.2.2.1), (3212, z4.2.2.2.1)] [] [(64, (σ.2.2.1 64)), (62, (σ.2.2.1 62)), (63, (σ.2.2.1 63)), (61, (σ.2.2.1 61)), (59, z4.2.2.2.2)] []) z7.1 z7.2.1 z7.2.2.1 z7.2.2.2.1 z7.2.2.2.2.1 z7.2.2.2.2.2.1 z7.2.2.2.2.2.2.1 z7.2.2.2.2.2.2.2.1 z7.2.2.2.2.2.2.2.2.1 z7.2.2.2.2.2.2.2.2.2.1 z7.2.2.2.2.2.2.2.2.2.2 hc8) (mk_mk rfl rfl rfl rfl) (cwV 0 hts (gz_V mw_5_165 mw_5_167 ms_4_4 mw_1_11 mw_5_168) rfl rfl rfl hdV_X9_isLike ⟨Nat.le_of_ble_eq_true rfl, Nat.le_of_ble_eq_true rfl⟩) hK hG (ga_50 g _) rfl rfl rfl hl.1 rfl (Nat.le_of_ble_eq_true rfl) dX9_clash_23 (fun H locs hG => ?_)
      refine W.eq (g2 := F0 m 26 ls [.int z7.1]) rfl ?_
      refine lv_if_eq (tgt := 34) hx hb dX9_clash_26 (by decide) (fun c9 => ?_) (fun c9 => ?_)
      · have h := ite_t c9 h
        refine lv_iload_n hx hb dX9_clash_34 rfl (lv_at hl 1 rfl) ?_
        refine lv_if_ne (tgt := 45) hx hb dX9_clash_35 (by decide) (fun c10 => ?_) (fun c10 => ?_)
        · have h := ite_f c10 h
          refine lv_aload_n hx hb dX9_clash_45 rfl (lv_at hl 0 rfl) ?_
          refine gx_get (v := .int z7.2.2.1) (C := RX9) (T := TX9) (N := 44) hx hb hts mc_X9 hown hK hG (ga_50 g _) rfl 22 (by decide) hw0 rfl rfl dX9_clash_46 ?_
          exact n49 z7.2.2.1 z7.2.1 z7.2.2.1 z7.2.2.2.1 z7.2.2.2.2.1 z7.2.2.2.2.2.1 z7.2.2.2.2.2.2.1 z7.2.2.2.2.2.2.2.1 z7.2.2.2.2.2.2.2.2.1 z7.2.2.2.2.2.2.2.2.2.1 z7.2.2.2.2.2.2.2.2.2.2 _ _ _ (lv_sub hl [] rfl) hG h
        · have h := ite_t c10 h
          refine lv_aload_n hx hb dX9_clash_38 rfl (lv_at hl 0 rfl) ?_
          refine gx_get (v := .int z7.2.1) (C := RX9) (T := TX9) (N := 44) hx hb hts mc_X9 hown hK hG (ga_50 g _) rfl 21 (by decide) hw1 rfl rfl dX9_clash_39 ?_
          refine lv_goto (tgt := 49) hx hb dX9_clash_42 (by decide) ?_
          exact n49 z7.2.1 z7.2.1 z7.2.2.1 z7.2.2.2.1 z7.2.2.2.2.1 z7.2.2.2.2.2.1 z7.2.2.2.2.2.2.1 z7.2.2.2.2.2.2.2.1 z7.2.2.2.2.2.2.2.2.1 z7.2.2.2.2.2.2.2.2.2.1 z7.2.2.2.2.2.2.2.2.2.2 _ _ _ (lv_sub hl [] rfl) hG h
      · have h := ite_f c9 h
        refine lv_bipush (v := (-8 : Int32)) hx hb dX9_clash_29 (by decide) ?_
        refine lv_goto (tgt := 49) hx hb dX9_clash_31 (by decide) ?_
        exact n49 (-8 : Int32) z7.2.1 z7.2.2.1 z7.2.2.2.1 z7.2.2.2.2.1 z7.2.2.2.2.2.1 z7.2.2.2.2.2.2.1 z7.2.2.2.2.2.2.2.1 z7.2.2.2.2.2.2.2.2.1 z7.2.2.2.2.2.2.2.2.2.1 z7.2.2.2.2.2.2.2.2.2.2 _ _ _ (lv_sub hl [] rfl) hG h
    · have h := ite_t c6 h
      refine lv_bipush (v := (-5 : Int32)) hx hb dX9_clash_19 (by decide) ?_
      cases h
      exact gx_iret hx hb hr hlocks hG dX9_clash_21
  · have h := ite_t c3 h
    refine lv_iconst (v := (-1 : Int32)) hx hb dX9_clash_10 (by decide) ?_
    cases h
    exact gx_iret hx hb hr hlocks hG dX9_clash_11

set_option maxHeartbeats 4000000 in
set_option maxRecDepth 100000 in
theorem c_M_entry (l : Launch) (g : GC) (σ : St) (x1 : Int32) (x2 : Int32) (r : Int32) (w_all : Int64) (w_sizes : Nat → Int64) (h : M_entry x1 x2 (σ.1 3208) (σ.2.1 3224) (σ.2.2.1 56) (σ.2.2.1 57) (σ.2.2.2 65) = some (r, w_all, w_sizes)) : Cn l g yX9_entry (Cond.code yX9_entry cX9_entry 3 (some .int) :: wG) 2 47 [.ref (g.2.1 50), .int x1, .int x2] σ (some (.int r)) (mkS σ [] [(3224, w_all)] [] [(65, w_sizes)]) := by
  unfold Cn
  refine Met.ofW (cc := cX9_entry) (maxL := 3) (ret := (some .int)) (by decide) rfl ?_
  intro p e s m args below meth c s₁ B hml hv
  obtain ⟨hargs, hP0, hK⟩ := hv
  have hx := B.exec
  have hb := B.bytes
  have hr := B.returns
  have hts : ∀ w ∈ wG, w.before args s = true := fun w h => atoms_spec (ws := (Cond.code yX9_entry cX9_entry 3 (some .int) :: wG)) B.pre w (List.mem_cons_of_mem _ h)
  have hown : s.vm.findClass RX9 = some m.cls := findClass_of_methodNamed B.named
  have hlocks := B.notSynchronized
  have hS9 : CallFix p m c cX9_entry 3 s args wG RX9 := ⟨hx, hb, hml, hown, hts⟩
  have hw0 := hts _ mw_5_40
  have hw1 := hts _ mw_4_147
  have hw2 := hts _ mw_4_162
  have hw3 := hts _ mw_4_148
  have hw4 := hts _ mw_4_149
  have hf9 : entryFrame m args 3 = _ := (congrArg (fun a => entryFrame m a 3) hargs).trans (lg_entry_eq m [.ref (g.2.1 50), .int x1, .int x2] 3)
  show Wg p l e 2 47 s m args below meth c g (some (.int r)) (mkS σ [] [(3224, w_all)] [] [(65, w_sizes)]) s.heap [] (entryFrame m args 3)
  rw [hf9]
  have hl := lv_entry ([.ref (g.2.1 50), .int x1, .int x2]) (n := 3) (Nat.le_of_ble_eq_true rfl)
  generalize (lg_sl ([.ref (g.2.1 50), .int x1, .int x2]) ++ List.replicate (3 - (lg_sl ([.ref (g.2.1 50), .int x1, .int x2])).length) Slot.unset).toArray = ls at hl ⊢
  have hl : lv_has ls 3 [(0, .ref (g.2.1 50)), (1, .int x1), (2, .int x2)] := hl
  have hG : GW g s σ s.heap [] := ⟨hP0, va_S.rf⟩
  have hG : GW g s (mkS σ [] [(3224, (σ.2.1 3224))] [] [(65, (σ.2.2.2 65))]) s.heap [] := GW_self [] [3224] [] [65] hG
  unfold M_entry at h
  have n26 : ∀ (v_all : Int64) (v_sizes : Nat → Int64) (H : Heap) (locs : List Loc) (ls : Array Slot), lv_has ls 3 [] → GW g s (mkS σ [] [(3224, v_all)] [] [(65, v_sizes)]) H locs → M_entry_n26 v_all v_sizes = some (r, w_all, w_sizes) → Wg p l e 2 47 s m args below meth c g (some (.int r)) (mkS σ [] [(3224, w_all)] [] [(65, w_sizes)]) H locs (F0 m 26 ls []) := by
    intro v_all v_sizes H locs ls hl hG h
    unfold M_entry_n26 at h
    refine lv_iconst (v := (-1 : Int32)) hx hb dX9_entry_26 (by decide) ?_
    cases h
    exact gx_iret hx hb hr hlocks hG dX9_entry_27
  have n85 : ∀ (t0 : Int32) (v_all : Int64) (v_sizes : Nat → Int64) (H : Heap) (locs : List Loc) (ls : Array Slot), lv_has ls 3 [] → GW g s (mkS σ [] [(3224, v_all)] [] [(65, v_sizes)]) H locs → M_entry_n85 t0 v_all v_sizes = some (r, w_all, w_sizes) → Wg p l e 2 47 s m args below meth c g (some (.int r)) (mkS σ [] [(3224, w_all)] [] [(65, w_sizes)]) H locs (F0 m 85 ls [.int t0]) := by
    intro t0 v_all v_sizes H locs ls hl hG h
    unfold M_entry_n85 at h
    cases h
    exact gx_iret hx hb hr hlocks hG dX9_entry_85
  refine lv_iload_n hx hb dX9_entry_0 rfl (lv_at hl 2 rfl) ?_
  refine lv_i2l hx hb dX9_entry_1 rfl ?_
  refine lv_lconst (v := (0 : Int64)) hx hb dX9_entry_2 (by decide) ?_
  refine lv_ldc2 hx hb hown hw0 dX9_entry_3 ?_
  obtain ⟨z1, hc2, h⟩ := bnd_some h
  refine gx_cS (σ' := (mkS σ [] [(3224, (σ.2.1 3224))] [] [(65, (σ.2.2.2 65))])) (r := (some (.int z1))) (rest := []) (As := [.long (x2.toInt64), .long (0 : Int64), .long (3 : Int64)]) hS9 (c_M_in l g (mkS σ [] [(3224, (σ.2.1 3224))] [] [(65, (σ.2.2.2 65))]) (x2.toInt64) (0 : Int64) (3 : Int64) z1 hc2) rfl (va_cwS 3 hts (gz_S mw_5_41 mw_5_42 mw_1_11 mw_5_43) rfl rfl rfl hdS_X9_in ⟨Nat.le_of_ble_eq_true rfl, Nat.le_of_ble_eq_true rfl⟩) hK hG rfl hl.1 rfl (Nat.le_of_ble_eq_true rfl) dX9_entry_6 (fun H locs hG => ?_)
  refine W.eq (g2 := F0 m 9 ls [.int z1]) rfl ?_
  refine lv_if_eq (tgt := 26) hx hb dX9_entry_9 (by decide) (fun c3 => ?_) (fun c3 => ?_)
  · have h := ite_t c3 h
    exact n26 (σ.2.1 3224) (σ.2.2.2 65) _ _ _ (lv_sub hl [] rfl) hG h
  · have h := ite_f c3 h
    refine lv_iload_n hx hb dX9_entry_12 rfl (lv_at hl 1 rfl) ?_
    refine lv_i2l hx hb dX9_entry_13 rfl ?_
    refine lv_lconst (v := (0 : Int64)) hx hb dX9_entry_14 (by decide) ?_
    refine lv_aload_n hx hb dX9_entry_15 rfl (lv_at hl 0 rfl) ?_
    refine gx_get (v := .int (σ.1 3208)) (C := RX9) (T := TX9) (N := 44) hx hb hts mc_X9 hown hK hG (ga_50 g _) rfl 8 (by decide) hw1 rfl rfl dX9_entry_16 ?_
    refine lv_i2l hx hb dX9_entry_19 rfl ?_
    obtain ⟨z4, hc5, h⟩ := bnd_some h
    refine gx_cS (σ' := (mkS σ [] [(3224, (σ.2.1 3224))] [] [(65, (σ.2.2.2 65))])) (r := (some (.int z4))) (rest := []) (As := [.long (x1.toInt64), .long (0 : Int64), .long ((σ.1 3208).toInt64)]) hS9 (c_M_in l g (mkS σ [] [(3224, (σ.2.1 3224))] [] [(65, (σ.2.2.2 65))]) (x1.toInt64) (0 : Int64) ((σ.1 3208).toInt64) z4 hc5) rfl (va_cwS 3 hts (gz_S mw_5_41 mw_5_42 mw_1_11 mw_5_43) rfl rfl rfl hdS_X9_in ⟨Nat.le_of_ble_eq_true rfl, Nat.le_of_ble_eq_true rfl⟩) hK hG rfl hl.1 rfl (Nat.le_of_ble_eq_true rfl) dX9_entry_20 (fun H locs hG => ?_)
    refine W.eq (g2 := F0 m 23 ls [.int z4]) rfl ?_
    refine lv_if_ne (tgt := 28) hx hb dX9_entry_23 (by decide) (fun c6 => ?_) (fun c6 => ?_)
    · have h := ite_f c6 h
      refine lv_aload_n hx hb dX9_entry_28 rfl (lv_at hl 0 rfl) ?_
      obtain ⟨z7, hc8, h⟩ := bnd_some h
      refine gx_cV (σ' := (mkS σ [] [(3224, z7.2.1)] [] [(65, z7.2.2)])) (r := (some (.int z7.1))) (rest := []) (As := []) hS9 (c_M_firstLaws l g (mkS σ [] [(3224, (σ.2.1 3224))] [] [(65, (σ.2.2.2 65))]) z7.1 z7.2.1 z7.2.2 hc8) (mk_mk rfl rfl rfl rfl) (cwV 0 hts (gz_V mw_5_212 mw_5_214 ms_4_8 mw_1_11 mw_5_215) rfl rfl rfl hdV_X9_firstLaws ⟨Nat.le_of_ble_eq_true rfl, Nat.le_of_ble_eq_true rfl⟩) hK hG (ga_50 g _) rfl rfl rfl hl.1 rfl (Nat.le_of_ble_eq_true rfl) dX9_entry_29 (fun H locs hG => ?_)
      refine W.eq (g2 := F0 m 32 ls [.int z7.1]) rfl ?_
      refine lv_if_le (tgt := 38) hx hb dX9_entry_32 (by decide) (fun c9 => ?_) (fun c9 => ?_)
      · have h := ite_t c9 h
        refine lv_iload_n hx hb dX9_entry_38 rfl (lv_at hl 2 rfl) ?_
        refine lv_if_ne (tgt := 51) hx hb dX9_entry_39 (by decide) (fun c10 => ?_) (fun c10 => ?_)
        · have h := ite_f c10 h
          refine lv_iload_n hx hb dX9_entry_51 rfl (lv_at hl 2 rfl) ?_
          refine lv_iconst (v := (1 : Int32)) hx hb dX9_entry_52 (by decide) ?_
          refine lv_icmp_ne (tgt := 64) hx hb dX9_entry_53 (by decide) (fun c11 => ?_) (fun c11 => ?_)
          · have h := ite_f c11 h
            refine lv_iload_n hx hb dX9_entry_64 rfl (lv_at hl 2 rfl) ?_
            refine lv_iconst (v := (2 : Int32)) hx hb dX9_entry_65 (by decide) ?_
            refine lv_icmp_ne (tgt := 78) hx hb dX9_entry_66 (by decide) (fun c12 => ?_) (fun c12 => ?_)
            · have h := ite_f c12 h
              refine lv_aload_n hx hb dX9_entry_78 rfl (lv_at hl 0 rfl) ?_
              refine gx_get (v := .ref (g.2.1 65)) (C := RX9) (T := TX9) (N := 44) hx hb hts mc_X9 hown hK hG (ga_50 g _) rfl 23 (by decide) hw2 rfl rfl dX9_entry_79 ?_
              refine lv_iload_n hx hb dX9_entry_82 rfl (lv_at hl 1 rfl) ?_
              obtain ⟨hg13, h⟩ := gd_some h
              refine gx_lald (f := z7.2.2) hx hb hK hG (ga_65 g _) hg13 dX9_entry_83 ?_
              refine lv_l2i hx hb dX9_entry_84 rfl ?_
              exact n85 ((z7.2.2 (x1.toNatClampNeg)).toInt32) z7.2.1 z7.2.2 _ _ _ (lv_sub hl [] rfl) hG h
            · have h := ite_t c12 h
              refine lv_aload_n hx hb dX9_entry_69 rfl (lv_at hl 0 rfl) ?_
              refine gx_get (v := .ref (g.2.1 56)) (C := RX9) (T := TX9) (N := 44) hx hb hts mc_X9 hown hK hG (ga_50 g _) rfl 9 (by decide) hw3 rfl rfl dX9_entry_70 ?_
              refine lv_iload_n hx hb dX9_entry_73 rfl (lv_at hl 1 rfl) ?_
              obtain ⟨hg14, h⟩ := gd_some h
              refine gx_iald (f := (σ.2.2.1 56)) hx hb hK hG (ga_56 g _) hg14 dX9_entry_74 ?_
              refine lv_goto (tgt := 85) hx hb dX9_entry_75 (by decide) ?_
              exact n85 ((σ.2.2.1 56) (x1.toNatClampNeg)) z7.2.1 z7.2.2 _ _ _ (lv_sub hl [] rfl) hG h
          · have h := ite_t c11 h
            refine lv_aload_n hx hb dX9_entry_56 rfl (lv_at hl 0 rfl) ?_
            refine lv_iload_n hx hb dX9_entry_57 rfl (lv_at hl 1 rfl) ?_
            obtain ⟨z15, hc16, h⟩ := bnd_some h
            refine gx_cV (σ' := (mkS σ [] [(3224, z7.2.1)] [] [(65, z7.2.2)])) (r := (some (.int z15))) (rest := []) (As := [.int x1]) hS9 (c_M_a l g (mkS σ [] [(3224, z7.2.1)] [] [(65, z7.2.2)]) x1 z15 hc16) rfl (cwV 1 hts (gz_V mw_5_216 mw_5_218 ms_4_9 mw_1_11 mw_5_219) rfl rfl rfl hdV_X9_a ⟨Nat.le_of_ble_eq_true rfl, Nat.le_of_ble_eq_true rfl⟩) hK hG (ga_50 g _) rfl rfl rfl hl.1 rfl (Nat.le_of_ble_eq_true rfl) dX9_entry_58 (fun H locs hG => ?_)
            refine W.eq (g2 := F0 m 61 ls [.int z15]) rfl ?_
            refine lv_goto (tgt := 85) hx hb dX9_entry_61 (by decide) ?_
            exact n85 z15 z7.2.1 z7.2.2 _ _ _ (lv_sub hl [] rfl) hG h
        · have h := ite_t c10 h
          refine lv_aload_n hx hb dX9_entry_42 rfl (lv_at hl 0 rfl) ?_
          refine gx_get (v := .ref (g.2.1 57)) (C := RX9) (T := TX9) (N := 44) hx hb hts mc_X9 hown hK hG (ga_50 g _) rfl 10 (by decide) hw4 rfl rfl dX9_entry_43 ?_
          refine lv_iload_n hx hb dX9_entry_46 rfl (lv_at hl 1 rfl) ?_
          obtain ⟨hg17, h⟩ := gd_some h
          refine gx_iald (f := (σ.2.2.1 57)) hx hb hK hG (ga_57 g _) hg17 dX9_entry_47 ?_
          refine lv_goto (tgt := 85) hx hb dX9_entry_48 (by decide) ?_
          exact n85 ((σ.2.2.1 57) (x1.toNatClampNeg)) z7.2.1 z7.2.2 _ _ _ (lv_sub hl [] rfl) hG h
      · have h := ite_f c9 h
        refine lv_bipush (v := (-6 : Int32)) hx hb dX9_entry_35 (by decide) ?_
        cases h
        exact gx_iret hx hb hr hlocks hG dX9_entry_37
    · have h := ite_t c6 h
      exact n26 (σ.2.1 3224) (σ.2.2.2 65) _ _ _ (lv_sub hl [] rfl) hG h

set_option maxHeartbeats 4000000 in
set_option maxRecDepth 100000 in
theorem c_M_isFar (l : Launch) (g : GC) (σ : St) (x1 : Int32) (x2 : Int32) (r : Int32) (h : M_isFar x1 x2 (σ.1 3214) (σ.2.2.1 59) = some r) : Cn l g yX9_isFar (Cond.code yX9_isFar cX9_isFar 3 (some .boolean) :: wG) 0 0 [.ref (g.2.1 50), .int x1, .int x2] σ (some (.int r)) σ := by
  unfold Cn
  refine Met.ofW (cc := cX9_isFar) (maxL := 3) (ret := (some .boolean)) (by decide) rfl ?_
  intro p e s m args below meth c s₁ B hml hv
  obtain ⟨hargs, hP0, hK⟩ := hv
  have hx := B.exec
  have hb := B.bytes
  have hr := B.returns
  have hts : ∀ w ∈ wG, w.before args s = true := fun w h => atoms_spec (ws := (Cond.code yX9_isFar cX9_isFar 3 (some .boolean) :: wG)) B.pre w (List.mem_cons_of_mem _ h)
  have hown : s.vm.findClass RX9 = some m.cls := findClass_of_methodNamed B.named
  have hlocks := B.notSynchronized
  have hw0 := hts _ mw_4_152
  have hw1 := hts _ mw_4_153
  have hf9 : entryFrame m args 3 = _ := (congrArg (fun a => entryFrame m a 3) hargs).trans (lg_entry_eq m [.ref (g.2.1 50), .int x1, .int x2] 3)
  show Wg p l e 0 0 s m args below meth c g (some (.int r)) σ s.heap [] (entryFrame m args 3)
  rw [hf9]
  have hl := lv_entry ([.ref (g.2.1 50), .int x1, .int x2]) (n := 3) (Nat.le_of_ble_eq_true rfl)
  generalize (lg_sl ([.ref (g.2.1 50), .int x1, .int x2]) ++ List.replicate (3 - (lg_sl ([.ref (g.2.1 50), .int x1, .int x2])).length) Slot.unset).toArray = ls at hl ⊢
  have hl : lv_has ls 3 [(0, .ref (g.2.1 50)), (1, .int x1), (2, .int x2)] := hl
  have hG : GW g s σ s.heap [] := ⟨hP0, va_S.rf⟩
  unfold M_isFar at h
  have n23 : ∀ (t0 : Int32) (H : Heap) (locs : List Loc) (ls : Array Slot), lv_has ls 3 [] → GW g s σ H locs → M_isFar_n23 t0 = some r → Wg p l e 0 0 s m args below meth c g (some (.int r)) σ H locs (F0 m 23 ls [.int t0]) := by
    intro t0 H locs ls hl hG h
    unfold M_isFar_n23 at h
    obtain ⟨hg1, h⟩ := gd_some h
    cases h
    exact gx_zret hx hb hr hlocks hg1 hG dX9_isFar_23
  refine lv_aload_n hx hb dX9_isFar_0 rfl (lv_at hl 0 rfl) ?_
  refine gx_get (v := .ref (g.2.1 59)) (C := RX9) (T := TX9) (N := 44) hx hb hts mc_X9 hown hK hG (ga_50 g _) rfl 13 (by decide) hw0 rfl rfl dX9_isFar_1 ?_
  refine lv_bipush (v := (32 : Int32)) hx hb dX9_isFar_4 (by decide) ?_
  refine lv_iload_n hx hb dX9_isFar_6 rfl (lv_at hl 1 rfl) ?_
  refine lv_imul hx hb dX9_isFar_7 ?_
  refine lv_iload_n hx hb dX9_isFar_8 rfl (lv_at hl 2 rfl) ?_
  refine lv_iadd hx hb dX9_isFar_9 ?_
  obtain ⟨hg2, h⟩ := gd_some h
  refine gx_iald (f := (σ.2.2.1 59)) hx hb hK hG (ga_59 g _) hg2 dX9_isFar_10 ?_
  refine lv_aload_n hx hb dX9_isFar_11 rfl (lv_at hl 0 rfl) ?_
  refine gx_get (v := .int (σ.1 3214)) (C := RX9) (T := TX9) (N := 44) hx hb hts mc_X9 hown hK hG (ga_50 g _) rfl 14 (by decide) hw1 rfl rfl dX9_isFar_12 ?_
  refine lv_icmp_ne (tgt := 22) hx hb dX9_isFar_15 (by decide) (fun c3 => ?_) (fun c3 => ?_)
  · have h := ite_f c3 h
    refine lv_iconst (v := (0 : Int32)) hx hb dX9_isFar_22 (by decide) ?_
    exact n23 (0 : Int32) _ _ _ (lv_sub hl [] rfl) hG h
  · have h := ite_t c3 h
    refine lv_iconst (v := (1 : Int32)) hx hb dX9_isFar_18 (by decide) ?_
    refine lv_goto (tgt := 23) hx hb dX9_isFar_19 (by decide) ?_
    exact n23 (1 : Int32) _ _ _ (lv_sub hl [] rfl) hG h

set_option maxHeartbeats 4000000 in
set_option maxRecDepth 100000 in
theorem c_M_isFolded (l : Launch) (g : GC) (σ : St) (r : Int32) (w_far : Int32) (w_heaps : Int32) (w_isMeasured : Int32) (w_wayOf : Nat → Int32) (h : M_isFolded (σ.1 3214) (σ.1 3215) (σ.1 3212) (σ.1 3203) (σ.2.2.1 54) (σ.2.2.1 59) = some (r, w_far, w_heaps, w_isMeasured, w_wayOf)) : Cn l g yX9_isFolded (Cond.code yX9_isFolded cX9_isFolded 5 (some .boolean) :: wG) 3 67 [.ref (g.2.1 50)] σ (some (.int r)) (mkS σ [(3214, w_far), (3215, w_heaps), (3212, w_isMeasured)] [] [(59, w_wayOf)] []) := by
  unfold Cn
  refine Met.ofW (cc := cX9_isFolded) (maxL := 5) (ret := (some .boolean)) (by decide) rfl ?_
  intro p e s m args below meth c s₁ B hml hv
  obtain ⟨hargs, hP0, hK⟩ := hv
  have hx := B.exec
  have hb := B.bytes
  have hr := B.returns
  have hts : ∀ w ∈ wG, w.before args s = true := fun w h => atoms_spec (ws := (Cond.code yX9_isFolded cX9_isFolded 5 (some .boolean) :: wG)) B.pre w (List.mem_cons_of_mem _ h)
  have hown : s.vm.findClass RX9 = some m.cls := findClass_of_methodNamed B.named
  have hlocks := B.notSynchronized
  have hS9 : CallFix p m c cX9_isFolded 5 s args wG RX9 := ⟨hx, hb, hml, hown, hts⟩
  have hw0 := hts _ mw_4_142
  have hw1 := hts _ mw_4_153
  have hf9 : entryFrame m args 5 = _ := (congrArg (fun a => entryFrame m a 5) hargs).trans (lg_entry_eq m [.ref (g.2.1 50)] 5)
  show Wg p l e 3 67 s m args below meth c g (some (.int r)) (mkS σ [(3214, w_far), (3215, w_heaps), (3212, w_isMeasured)] [] [(59, w_wayOf)] []) s.heap [] (entryFrame m args 5)
  rw [hf9]
  have hl := lv_entry ([.ref (g.2.1 50)]) (n := 5) (Nat.le_of_ble_eq_true rfl)
  generalize (lg_sl ([.ref (g.2.1 50)]) ++ List.replicate (5 - (lg_sl ([.ref (g.2.1 50)])).length) Slot.unset).toArray = ls at hl ⊢
  have hl : lv_has ls 5 [(0, .ref (g.2.1 50))] := hl
  have hG : GW g s σ s.heap [] := ⟨hP0, va_S.rf⟩
  have hG : GW g s (mkS σ [(3214, (σ.1 3214)), (3215, (σ.1 3215)), (3212, (σ.1 3212))] [] [(59, (σ.2.2.1 59))] []) s.heap [] := GW_self [3214, 3215, 3212] [] [59] [] hG
  unfold M_isFolded at h
  have n15 : ∀ (v_far : Int32) (v_heaps : Int32) (v_isMeasured : Int32) (v_wayOf : Nat → Int32) (H : Heap) (locs : List Loc) (ls : Array Slot), lv_has ls 5 [] → GW g s (mkS σ [(3214, v_far), (3215, v_heaps), (3212, v_isMeasured)] [] [(59, v_wayOf)] []) H locs → M_isFolded_n15 v_far v_heaps v_isMeasured v_wayOf = some (r, w_far, w_heaps, w_isMeasured, w_wayOf) → Wg p l e 3 67 s m args below meth c g (some (.int r)) (mkS σ [(3214, w_far), (3215, w_heaps), (3212, w_isMeasured)] [] [(59, w_wayOf)] []) H locs (F0 m 15 ls []) := by
    intro v_far v_heaps v_isMeasured v_wayOf H locs ls hl hG h
    unfold M_isFolded_n15 at h
    refine lv_iconst (v := (0 : Int32)) hx hb dX9_isFolded_15 (by decide) ?_
    cases h
    exact gx_zret hx hb hr hlocks (by decide) hG dX9_isFolded_16
  have n95 : ∀ (k42 : Int32 → Int32 → Int32 → Int32 → Int32 → Int32 → Int32 → (Nat → Int32) → Option (Int32 × Int32 × Int32 × Int32 × (Nat → Int32))) (hk42 : ∀ (x1 : Int32) (x2 : Int32) (x3 : Int32) (x4 : Int32) (v_far : Int32) (v_heaps : Int32) (v_isMeasured : Int32) (v_wayOf : Nat → Int32) (H : Heap) (locs : List Loc) (ls : Array Slot), lv_has ls 5 [(0, .ref (g.2.1 50)), (1, .int x1), (2, .int x2), (3, .int x3), (4, .int x4)] → GW g s (mkS σ [(3214, v_far), (3215, v_heaps), (3212, v_isMeasured)] [] [(59, v_wayOf)] []) H locs → k42 x1 x2 x3 x4 v_far v_heaps v_isMeasured v_wayOf = some (r, w_far, w_heaps, w_isMeasured, w_wayOf) → Wg p l e 3 67 s m args below meth c g (some (.int r)) (mkS σ [(3214, w_far), (3215, w_heaps), (3212, w_isMeasured)] [] [(59, w_wayOf)] []) H locs (F0 m 42 ls [])) (x2 : Int32) (x3 : Int32) (x4 : Int32) (t0 : Int32) (v_far : Int32) (v_heaps : Int32) (v_isMeasured : Int32) (v_wayOf : Nat → Int32) (H : Heap) (locs : List Loc) (ls : Array Slot), lv_has ls 5 [(0, .ref (g.2.1 50)), (2, .int x2), (3, .int x3), (4, .int x4)] → GW g s (mkS σ [(3214, v_far), (3215, v_heaps), (3212, v_isMeasured)] [] [(59, v_wayOf)] []) H locs → M_isFolded_n95 k42 x2 x3 x4 t0 v_far v_heaps v_isMeasured v_wayOf = some (r, w_far, w_heaps, w_isMeasured, w_wayOf) → Wg p l e 3 67 s m args below meth c g (some (.int r)) (mkS σ [(3214, w_far), (3215, w_heaps), (3212, w_isMeasured)] [] [(59, w_wayOf)] []) H locs (F0 m 95 ls [.int t0]) := by
    intro k42 hk42 x2 x3 x4 t0 v_far v_heaps v_isMeasured v_wayOf H locs ls hl hG h
    unfold M_isFolded_n95 at h
    refine lv_istore_n (lv' := [(1, .int t0), (0, .ref (g.2.1 50)), (2, .int x2), (3, .int x3), (4, .int x4)]) hx hb dX9_isFolded_95 rfl hl (Nat.le_of_ble_eq_true rfl) rfl (fun ls hl => ?_)
    refine lv_iinc (v := (x4 + (1 : Int32))) (lv' := [(4, .int (x4 + (1 : Int32))), (1, .int t0), (0, .ref (g.2.1 50)), (2, .int x2), (3, .int x3)]) hx hb dX9_isFolded_96 hl (k := 4) rfl (congrArg (fun z => x4 + z) (by decide)) (Nat.le_of_ble_eq_true rfl) rfl (fun ls hl => ?_)
    refine lv_goto (tgt := 42) hx hb dX9_isFolded_99 (by decide) ?_
    exact hk42 t0 x2 x3 (x4 + (1 : Int32)) v_far v_heaps v_isMeasured v_wayOf _ _ _ (lv_sub hl [2, 1, 3, 4, 0] rfl) hG h
  have n90 : ∀ (k42 : Int32 → Int32 → Int32 → Int32 → Int32 → Int32 → Int32 → (Nat → Int32) → Option (Int32 × Int32 × Int32 × Int32 × (Nat → Int32))) (hk42 : ∀ (x1 : Int32) (x2 : Int32) (x3 : Int32) (x4 : Int32) (v_far : Int32) (v_heaps : Int32) (v_isMeasured : Int32) (v_wayOf : Nat → Int32) (H : Heap) (locs : List Loc) (ls : Array Slot), lv_has ls 5 [(0, .ref (g.2.1 50)), (1, .int x1), (2, .int x2), (3, .int x3), (4, .int x4)] → GW g s (mkS σ [(3214, v_far), (3215, v_heaps), (3212, v_isMeasured)] [] [(59, v_wayOf)] []) H locs → k42 x1 x2 x3 x4 v_far v_heaps v_isMeasured v_wayOf = some (r, w_far, w_heaps, w_isMeasured, w_wayOf) → Wg p l e 3 67 s m args below meth c g (some (.int r)) (mkS σ [(3214, w_far), (3215, w_heaps), (3212, w_isMeasured)] [] [(59, w_wayOf)] []) H locs (F0 m 42 ls [])) (x2 : Int32) (x3 : Int32) (x4 : Int32) (v_far : Int32) (v_heaps : Int32) (v_isMeasured : Int32) (v_wayOf : Nat → Int32) (H : Heap) (locs : List Loc) (ls : Array Slot), lv_has ls 5 [(0, .ref (g.2.1 50)), (2, .int x2), (3, .int x3), (4, .int x4)] → GW g s (mkS σ [(3214, v_far), (3215, v_heaps), (3212, v_isMeasured)] [] [(59, v_wayOf)] []) H locs → M_isFolded_n90 k42 x2 x3 x4 v_far v_heaps v_isMeasured v_wayOf = some (r, w_far, w_heaps, w_isMeasured, w_wayOf) → Wg p l e 3 67 s m args below meth c g (some (.int r)) (mkS σ [(3214, w_far), (3215, w_heaps), (3212, w_isMeasured)] [] [(59, w_wayOf)] []) H locs (F0 m 90 ls []) := by
    intro k42 hk42 x2 x3 x4 v_far v_heaps v_isMeasured v_wayOf H locs ls hl hG h
    unfold M_isFolded_n90 at h
    refine lv_iconst (v := (1 : Int32)) hx hb dX9_isFolded_90 (by decide) ?_
    refine lv_goto (tgt := 95) hx hb dX9_isFolded_91 (by decide) ?_
    exact n95 k42 hk42 x2 x3 x4 (1 : Int32) v_far v_heaps v_isMeasured v_wayOf _ _ _ (lv_sub hl [0, 1, 2, 3] rfl) hG h
  have n94 : ∀ (k42 : Int32 → Int32 → Int32 → Int32 → Int32 → Int32 → Int32 → (Nat → Int32) → Option (Int32 × Int32 × Int32 × Int32 × (Nat → Int32))) (hk42 : ∀ (x1 : Int32) (x2 : Int32) (x3 : Int32) (x4 : Int32) (v_far : Int32) (v_heaps : Int32) (v_isMeasured : Int32) (v_wayOf : Nat → Int32) (H : Heap) (locs : List Loc) (ls : Array Slot), lv_has ls 5 [(0, .ref (g.2.1 50)), (1, .int x1), (2, .int x2), (3, .int x3), (4, .int x4)] → GW g s (mkS σ [(3214, v_far), (3215, v_heaps), (3212, v_isMeasured)] [] [(59, v_wayOf)] []) H locs → k42 x1 x2 x3 x4 v_far v_heaps v_isMeasured v_wayOf = some (r, w_far, w_heaps, w_isMeasured, w_wayOf) → Wg p l e 3 67 s m args below meth c g (some (.int r)) (mkS σ [(3214, w_far), (3215, w_heaps), (3212, w_isMeasured)] [] [(59, w_wayOf)] []) H locs (F0 m 42 ls [])) (x2 : Int32) (x3 : Int32) (x4 : Int32) (v_far : Int32) (v_heaps : Int32) (v_isMeasured : Int32) (v_wayOf : Nat → Int32) (H : Heap) (locs : List Loc) (ls : Array Slot), lv_has ls 5 [(0, .ref (g.2.1 50)), (2, .int x2), (3, .int x3), (4, .int x4)] → GW g s (mkS σ [(3214, v_far), (3215, v_heaps), (3212, v_isMeasured)] [] [(59, v_wayOf)] []) H locs → M_isFolded_n94 k42 x2 x3 x4 v_far v_heaps v_isMeasured v_wayOf = some (r, w_far, w_heaps, w_isMeasured, w_wayOf) → Wg p l e 3 67 s m args below meth c g (some (.int r)) (mkS σ [(3214, w_far), (3215, w_heaps), (3212, w_isMeasured)] [] [(59, w_wayOf)] []) H locs (F0 m 94 ls []) := by
    intro k42 hk42 x2 x3 x4 v_far v_heaps v_isMeasured v_wayOf H locs ls hl hG h
    unfold M_isFolded_n94 at h
    refine lv_iconst (v := (0 : Int32)) hx hb dX9_isFolded_94 (by decide) ?_
    exact n95 k42 hk42 x2 x3 x4 (0 : Int32) v_far v_heaps v_isMeasured v_wayOf _ _ _ (lv_sub hl [0, 1, 2, 3] rfl) hG h
  have n102 : ∀ (k31 : Int32 → Int32 → Int32 → Int32 → Int32 → Int32 → (Nat → Int32) → Option (Int32 × Int32 × Int32 × Int32 × (Nat → Int32))) (hk31 : ∀ (x1 : Int32) (x2 : Int32) (x3 : Int32) (v_far : Int32) (v_heaps : Int32) (v_isMeasured : Int32) (v_wayOf : Nat → Int32) (H : Heap) (locs : List Loc) (ls : Array Slot), lv_has ls 5 [(0, .ref (g.2.1 50)), (1, .int x1), (2, .int x2), (3, .int x3)] → GW g s (mkS σ [(3214, v_far), (3215, v_heaps), (3212, v_isMeasured)] [] [(59, v_wayOf)] []) H locs → k31 x1 x2 x3 v_far v_heaps v_isMeasured v_wayOf = some (r, w_far, w_heaps, w_isMeasured, w_wayOf) → Wg p l e 3 67 s m args below meth c g (some (.int r)) (mkS σ [(3214, w_far), (3215, w_heaps), (3212, w_isMeasured)] [] [(59, w_wayOf)] []) H locs (F0 m 31 ls [])) (x1 : Int32) (x2 : Int32) (x3 : Int32) (v_far : Int32) (v_heaps : Int32) (v_isMeasured : Int32) (v_wayOf : Nat → Int32) (H : Heap) (locs : List Loc) (ls : Array Slot), lv_has ls 5 [(0, .ref (g.2.1 50)), (1, .int x1), (2, .int x2), (3, .int x3)] → GW g s (mkS σ [(3214, v_far), (3215, v_heaps), (3212, v_isMeasured)] [] [(59, v_wayOf)] []) H locs → M_isFolded_n102 k31 x1 x2 x3 v_far v_heaps v_isMeasured v_wayOf = some (r, w_far, w_heaps, w_isMeasured, w_wayOf) → Wg p l e 3 67 s m args below meth c g (some (.int r)) (mkS σ [(3214, w_far), (3215, w_heaps), (3212, w_isMeasured)] [] [(59, w_wayOf)] []) H locs (F0 m 102 ls []) := by
    intro k31 hk31 x1 x2 x3 v_far v_heaps v_isMeasured v_wayOf H locs ls hl hG h
    unfold M_isFolded_n102 at h
    refine lv_iinc (v := (x3 + (1 : Int32))) (lv' := [(3, .int (x3 + (1 : Int32))), (0, .ref (g.2.1 50)), (1, .int x1), (2, .int x2)]) hx hb dX9_isFolded_102 hl (k := 3) rfl (congrArg (fun z => x3 + z) (by decide)) (Nat.le_of_ble_eq_true rfl) rfl (fun ls hl => ?_)
    refine lv_goto (tgt := 31) hx hb dX9_isFolded_105 (by decide) ?_
    exact hk31 x1 x2 (x3 + (1 : Int32)) v_far v_heaps v_isMeasured v_wayOf _ _ _ (lv_sub hl [1, 2, 3, 0] rfl) hG h
  have n42 : ∀ (k31 : Int32 → Int32 → Int32 → Int32 → Int32 → Int32 → (Nat → Int32) → Option (Int32 × Int32 × Int32 × Int32 × (Nat → Int32))) (hk31 : ∀ (x1 : Int32) (x2 : Int32) (x3 : Int32) (v_far : Int32) (v_heaps : Int32) (v_isMeasured : Int32) (v_wayOf : Nat → Int32) (H : Heap) (locs : List Loc) (ls : Array Slot), lv_has ls 5 [(0, .ref (g.2.1 50)), (1, .int x1), (2, .int x2), (3, .int x3)] → GW g s (mkS σ [(3214, v_far), (3215, v_heaps), (3212, v_isMeasured)] [] [(59, v_wayOf)] []) H locs → k31 x1 x2 x3 v_far v_heaps v_isMeasured v_wayOf = some (r, w_far, w_heaps, w_isMeasured, w_wayOf) → Wg p l e 3 67 s m args below meth c g (some (.int r)) (mkS σ [(3214, w_far), (3215, w_heaps), (3212, w_isMeasured)] [] [(59, w_wayOf)] []) H locs (F0 m 31 ls [])) (k42 : Int32 → Int32 → Int32 → Int32 → Int32 → Int32 → Int32 → (Nat → Int32) → Option (Int32 × Int32 × Int32 × Int32 × (Nat → Int32))) (hk42 : ∀ (x1 : Int32) (x2 : Int32) (x3 : Int32) (x4 : Int32) (v_far : Int32) (v_heaps : Int32) (v_isMeasured : Int32) (v_wayOf : Nat → Int32) (H : Heap) (locs : List Loc) (ls : Array Slot), lv_has ls 5 [(0, .ref (g.2.1 50)), (1, .int x1), (2, .int x2), (3, .int x3), (4, .int x4)] → GW g s (mkS σ [(3214, v_far), (3215, v_heaps), (3212, v_isMeasured)] [] [(59, v_wayOf)] []) H locs → k42 x1 x2 x3 x4 v_far v_heaps v_isMeasured v_wayOf = some (r, w_far, w_heaps, w_isMeasured, w_wayOf) → Wg p l e 3 67 s m args below meth c g (some (.int r)) (mkS σ [(3214, w_far), (3215, w_heaps), (3212, w_isMeasured)] [] [(59, w_wayOf)] []) H locs (F0 m 42 ls [])) (x1 : Int32) (x2 : Int32) (x3 : Int32) (x4 : Int32) (v_far : Int32) (v_heaps : Int32) (v_isMeasured : Int32) (v_wayOf : Nat → Int32) (H : Heap) (locs : List Loc) (ls : Array Slot), lv_has ls 5 [(0, .ref (g.2.1 50)), (1, .int x1), (2, .int x2), (3, .int x3), (4, .int x4)] → GW g s (mkS σ [(3214, v_far), (3215, v_heaps), (3212, v_isMeasured)] [] [(59, v_wayOf)] []) H locs → M_isFolded_n42 k31 k42 (σ.1 3203) x1 x2 x3 x4 v_far v_heaps v_isMeasured v_wayOf = some (r, w_far, w_heaps, w_isMeasured, w_wayOf) → Wg p l e 3 67 s m args below meth c g (some (.int r)) (mkS σ [(3214, w_far), (3215, w_heaps), (3212, w_isMeasured)] [] [(59, w_wayOf)] []) H locs (F0 m 42 ls []) := by
    intro k31 hk31 k42 hk42 x1 x2 x3 x4 v_far v_heaps v_isMeasured v_wayOf H locs ls hl hG h
    unfold M_isFolded_n42 at h
    refine lv_iload hx hb dX9_isFolded_42 (lv_at hl 4 rfl) ?_
    refine lv_aload_n hx hb dX9_isFolded_44 rfl (lv_at hl 0 rfl) ?_
    refine gx_get (v := .int (σ.1 3203)) (C := RX9) (T := TX9) (N := 44) hx hb hts mc_X9 hown hK hG (ga_50 g _) rfl 3 (by decide) hw0 rfl rfl dX9_isFolded_45 ?_
    refine lv_icmp_ge (tgt := 102) hx hb dX9_isFolded_48 (by decide) (fun c1 => ?_) (fun c1 => ?_)
    · have h := ite_t c1 h
      exact n102 k31 hk31 x1 x2 x3 v_far v_heaps v_isMeasured v_wayOf _ _ _ (lv_sub hl [0, 1, 2, 3] rfl) hG h
    · have h := ite_f c1 h
      refine lv_aload_n hx hb dX9_isFolded_51 rfl (lv_at hl 0 rfl) ?_
      refine lv_iload_n hx hb dX9_isFolded_52 rfl (lv_at hl 2 rfl) ?_
      refine lv_iload_n hx hb dX9_isFolded_53 rfl (lv_at hl 3 rfl) ?_
      obtain ⟨z2, hc3, h⟩ := bnd_some h
      refine gx_cV (σ' := (mkS σ [(3214, v_far), (3215, v_heaps), (3212, v_isMeasured)] [] [(59, v_wayOf)] [])) (r := (some (.int z2))) (rest := []) (As := [.int x2, .int x3]) hS9 (c_M_isFar l g (mkS σ [(3214, v_far), (3215, v_heaps), (3212, v_isMeasured)] [] [(59, v_wayOf)] []) x2 x3 z2 hc3) rfl (cwV 2 hts (gz_V mw_5_161 mw_5_163 ms_4_3 mw_1_11 mw_5_164) rfl rfl rfl hdV_X9_isFar ⟨Nat.le_of_ble_eq_true rfl, Nat.le_of_ble_eq_true rfl⟩) hK hG (ga_50 g _) rfl rfl rfl hl.1 rfl (Nat.le_of_ble_eq_true rfl) dX9_isFolded_54 (fun H locs hG => ?_)
      refine W.eq (g2 := F0 m 57 ls [.int z2]) rfl ?_
      refine lv_if_eq (tgt := 102) hx hb dX9_isFolded_57 (by decide) (fun c4 => ?_) (fun c4 => ?_)
      · have h := ite_t c4 h
        exact n102 k31 hk31 x1 x2 x3 v_far v_heaps v_isMeasured v_wayOf _ _ _ (lv_sub hl [0, 1, 2, 3] rfl) hG h
      · have h := ite_f c4 h
        refine lv_iload_n hx hb dX9_isFolded_60 rfl (lv_at hl 1 rfl) ?_
        refine lv_if_eq (tgt := 94) hx hb dX9_isFolded_61 (by decide) (fun c5 => ?_) (fun c5 => ?_)
        · have h := ite_t c5 h
          exact n94 k42 hk42 x2 x3 x4 v_far v_heaps v_isMeasured v_wayOf _ _ _ (lv_sub hl [0, 2, 3, 4] rfl) hG h
        · have h := ite_f c5 h
          refine lv_aload_n hx hb dX9_isFolded_64 rfl (lv_at hl 0 rfl) ?_
          refine lv_iload_n hx hb dX9_isFolded_65 rfl (lv_at hl 3 rfl) ?_
          refine lv_iload hx hb dX9_isFolded_66 (lv_at hl 4 rfl) ?_
          obtain ⟨z6, hc7, h⟩ := bnd_some h
          refine gx_cV (σ' := (mkS σ [(3214, v_far), (3215, v_heaps), (3212, v_isMeasured)] [] [(59, v_wayOf)] [])) (r := (some (.int z6))) (rest := []) (As := [.int x3, .int x4]) hS9 (c_M_isFar l g (mkS σ [(3214, v_far), (3215, v_heaps), (3212, v_isMeasured)] [] [(59, v_wayOf)] []) x3 x4 z6 hc7) rfl (cwV 2 hts (gz_V mw_5_161 mw_5_163 ms_4_3 mw_1_11 mw_5_164) rfl rfl rfl hdV_X9_isFar ⟨Nat.le_of_ble_eq_true rfl, Nat.le_of_ble_eq_true rfl⟩) hK hG (ga_50 g _) rfl rfl rfl hl.1 rfl (Nat.le_of_ble_eq_true rfl) dX9_isFolded_68 (fun H locs hG => ?_)
          refine W.eq (g2 := F0 m 71 ls [.int z6]) rfl ?_
          refine lv_if_eq (tgt := 90) hx hb dX9_isFolded_71 (by decide) (fun c8 => ?_) (fun c8 => ?_)
          · have h := ite_t c8 h
            exact n90 k42 hk42 x2 x3 x4 v_far v_heaps v_isMeasured v_wayOf _ _ _ (lv_sub hl [0, 2, 3, 4] rfl) hG h
          · have h := ite_f c8 h
            refine lv_iload hx hb dX9_isFolded_74 (lv_at hl 4 rfl) ?_
            refine lv_iload_n hx hb dX9_isFolded_76 rfl (lv_at hl 2 rfl) ?_
            refine lv_icmp_eq (tgt := 90) hx hb dX9_isFolded_77 (by decide) (fun c9 => ?_) (fun c9 => ?_)
            · have h := ite_t c9 h
              exact n90 k42 hk42 x2 x3 x4 v_far v_heaps v_isMeasured v_wayOf _ _ _ (lv_sub hl [0, 2, 3, 4] rfl) hG h
            · have h := ite_f c9 h
              refine lv_aload_n hx hb dX9_isFolded_80 rfl (lv_at hl 0 rfl) ?_
              refine lv_iload_n hx hb dX9_isFolded_81 rfl (lv_at hl 2 rfl) ?_
              refine lv_iload hx hb dX9_isFolded_82 (lv_at hl 4 rfl) ?_
              obtain ⟨z10, hc11, h⟩ := bnd_some h
              refine gx_cV (σ' := (mkS σ [(3214, v_far), (3215, v_heaps), (3212, v_isMeasured)] [] [(59, v_wayOf)] [])) (r := (some (.int z10))) (rest := []) (As := [.int x2, .int x4]) hS9 (c_M_isFar l g (mkS σ [(3214, v_far), (3215, v_heaps), (3212, v_isMeasured)] [] [(59, v_wayOf)] []) x2 x4 z10 hc11) rfl (cwV 2 hts (gz_V mw_5_161 mw_5_163 ms_4_3 mw_1_11 mw_5_164) rfl rfl rfl hdV_X9_isFar ⟨Nat.le_of_ble_eq_true rfl, Nat.le_of_ble_eq_true rfl⟩) hK hG (ga_50 g _) rfl rfl rfl hl.1 rfl (Nat.le_of_ble_eq_true rfl) dX9_isFolded_84 (fun H locs hG => ?_)
              refine W.eq (g2 := F0 m 87 ls [.int z10]) rfl ?_
              refine lv_if_eq (tgt := 94) hx hb dX9_isFolded_87 (by decide) (fun c12 => ?_) (fun c12 => ?_)
              · have h := ite_t c12 h
                exact n94 k42 hk42 x2 x3 x4 v_far v_heaps v_isMeasured v_wayOf _ _ _ (lv_sub hl [0, 2, 3, 4] rfl) hG h
              · have h := ite_f c12 h
                exact n90 k42 hk42 x2 x3 x4 v_far v_heaps v_isMeasured v_wayOf _ _ _ (lv_sub hl [0, 2, 3, 4] rfl) hG h
  have l42 : ∀ (k31 : Int32 → Int32 → Int32 → Int32 → Int32 → Int32 → (Nat → Int32) → Option (Int32 × Int32 × Int32 × Int32 × (Nat → Int32))) (hk31 : ∀ (x1 : Int32) (x2 : Int32) (x3 : Int32) (v_far : Int32) (v_heaps : Int32) (v_isMeasured : Int32) (v_wayOf : Nat → Int32) (H : Heap) (locs : List Loc) (ls : Array Slot), lv_has ls 5 [(0, .ref (g.2.1 50)), (1, .int x1), (2, .int x2), (3, .int x3)] → GW g s (mkS σ [(3214, v_far), (3215, v_heaps), (3212, v_isMeasured)] [] [(59, v_wayOf)] []) H locs → k31 x1 x2 x3 v_far v_heaps v_isMeasured v_wayOf = some (r, w_far, w_heaps, w_isMeasured, w_wayOf) → Wg p l e 3 67 s m args below meth c g (some (.int r)) (mkS σ [(3214, w_far), (3215, w_heaps), (3212, w_isMeasured)] [] [(59, w_wayOf)] []) H locs (F0 m 31 ls [])) (F : Nat) (x1 : Int32) (x2 : Int32) (x3 : Int32) (x4 : Int32) (v_far : Int32) (v_heaps : Int32) (v_isMeasured : Int32) (v_wayOf : Nat → Int32) (H : Heap) (locs : List Loc) (ls : Array Slot), lv_has ls 5 [(0, .ref (g.2.1 50)), (1, .int x1), (2, .int x2), (3, .int x3), (4, .int x4)] → GW g s (mkS σ [(3214, v_far), (3215, v_heaps), (3212, v_isMeasured)] [] [(59, v_wayOf)] []) H locs → M_isFolded_l42 k31 (σ.1 3203) F x1 x2 x3 x4 v_far v_heaps v_isMeasured v_wayOf = some (r, w_far, w_heaps, w_isMeasured, w_wayOf) → Wg p l e 3 67 s m args below meth c g (some (.int r)) (mkS σ [(3214, w_far), (3215, w_heaps), (3212, w_isMeasured)] [] [(59, w_wayOf)] []) H locs (F0 m 42 ls []) := by
    intro k31 hk31 F
    induction F with
    | zero => intro x1 x2 x3 x4 v_far v_heaps v_isMeasured v_wayOf H locs ls hl hG h; exact no_some h
    | succ F ih => intro x1 x2 x3 x4 v_far v_heaps v_isMeasured v_wayOf H locs ls hl hG h; exact n42 k31 hk31 (fun x1 x2 x3 x4 v_far v_heaps v_isMeasured v_wayOf => M_isFolded_l42 k31 (σ.1 3203) F x1 x2 x3 x4 v_far v_heaps v_isMeasured v_wayOf) ih x1 x2 x3 x4 v_far v_heaps v_isMeasured v_wayOf H locs ls hl hG h
  have n108 : ∀ (k21 : Int32 → Int32 → Int32 → Int32 → Int32 → (Nat → Int32) → Option (Int32 × Int32 × Int32 × Int32 × (Nat → Int32))) (hk21 : ∀ (x1 : Int32) (x2 : Int32) (v_far : Int32) (v_heaps : Int32) (v_isMeasured : Int32) (v_wayOf : Nat → Int32) (H : Heap) (locs : List Loc) (ls : Array Slot), lv_has ls 5 [(0, .ref (g.2.1 50)), (1, .int x1), (2, .int x2)] → GW g s (mkS σ [(3214, v_far), (3215, v_heaps), (3212, v_isMeasured)] [] [(59, v_wayOf)] []) H locs → k21 x1 x2 v_far v_heaps v_isMeasured v_wayOf = some (r, w_far, w_heaps, w_isMeasured, w_wayOf) → Wg p l e 3 67 s m args below meth c g (some (.int r)) (mkS σ [(3214, w_far), (3215, w_heaps), (3212, w_isMeasured)] [] [(59, w_wayOf)] []) H locs (F0 m 21 ls [])) (x1 : Int32) (x2 : Int32) (v_far : Int32) (v_heaps : Int32) (v_isMeasured : Int32) (v_wayOf : Nat → Int32) (H : Heap) (locs : List Loc) (ls : Array Slot), lv_has ls 5 [(0, .ref (g.2.1 50)), (1, .int x1), (2, .int x2)] → GW g s (mkS σ [(3214, v_far), (3215, v_heaps), (3212, v_isMeasured)] [] [(59, v_wayOf)] []) H locs → M_isFolded_n108 k21 x1 x2 v_far v_heaps v_isMeasured v_wayOf = some (r, w_far, w_heaps, w_isMeasured, w_wayOf) → Wg p l e 3 67 s m args below meth c g (some (.int r)) (mkS σ [(3214, w_far), (3215, w_heaps), (3212, w_isMeasured)] [] [(59, w_wayOf)] []) H locs (F0 m 108 ls []) := by
    intro k21 hk21 x1 x2 v_far v_heaps v_isMeasured v_wayOf H locs ls hl hG h
    unfold M_isFolded_n108 at h
    refine lv_iinc (v := (x2 + (1 : Int32))) (lv' := [(2, .int (x2 + (1 : Int32))), (0, .ref (g.2.1 50)), (1, .int x1)]) hx hb dX9_isFolded_108 hl (k := 2) rfl (congrArg (fun z => x2 + z) (by decide)) (Nat.le_of_ble_eq_true rfl) rfl (fun ls hl => ?_)
    refine lv_goto (tgt := 21) hx hb dX9_isFolded_111 (by decide) ?_
    exact hk21 x1 (x2 + (1 : Int32)) v_far v_heaps v_isMeasured v_wayOf _ _ _ (lv_sub hl [1, 2, 0] rfl) hG h
  have n31 : ∀ (k21 : Int32 → Int32 → Int32 → Int32 → Int32 → (Nat → Int32) → Option (Int32 × Int32 × Int32 × Int32 × (Nat → Int32))) (hk21 : ∀ (x1 : Int32) (x2 : Int32) (v_far : Int32) (v_heaps : Int32) (v_isMeasured : Int32) (v_wayOf : Nat → Int32) (H : Heap) (locs : List Loc) (ls : Array Slot), lv_has ls 5 [(0, .ref (g.2.1 50)), (1, .int x1), (2, .int x2)] → GW g s (mkS σ [(3214, v_far), (3215, v_heaps), (3212, v_isMeasured)] [] [(59, v_wayOf)] []) H locs → k21 x1 x2 v_far v_heaps v_isMeasured v_wayOf = some (r, w_far, w_heaps, w_isMeasured, w_wayOf) → Wg p l e 3 67 s m args below meth c g (some (.int r)) (mkS σ [(3214, w_far), (3215, w_heaps), (3212, w_isMeasured)] [] [(59, w_wayOf)] []) H locs (F0 m 21 ls [])) (k31 : Int32 → Int32 → Int32 → Int32 → Int32 → Int32 → (Nat → Int32) → Option (Int32 × Int32 × Int32 × Int32 × (Nat → Int32))) (hk31 : ∀ (x1 : Int32) (x2 : Int32) (x3 : Int32) (v_far : Int32) (v_heaps : Int32) (v_isMeasured : Int32) (v_wayOf : Nat → Int32) (H : Heap) (locs : List Loc) (ls : Array Slot), lv_has ls 5 [(0, .ref (g.2.1 50)), (1, .int x1), (2, .int x2), (3, .int x3)] → GW g s (mkS σ [(3214, v_far), (3215, v_heaps), (3212, v_isMeasured)] [] [(59, v_wayOf)] []) H locs → k31 x1 x2 x3 v_far v_heaps v_isMeasured v_wayOf = some (r, w_far, w_heaps, w_isMeasured, w_wayOf) → Wg p l e 3 67 s m args below meth c g (some (.int r)) (mkS σ [(3214, w_far), (3215, w_heaps), (3212, w_isMeasured)] [] [(59, w_wayOf)] []) H locs (F0 m 31 ls [])) (x1 : Int32) (x2 : Int32) (x3 : Int32) (v_far : Int32) (v_heaps : Int32) (v_isMeasured : Int32) (v_wayOf : Nat → Int32) (H : Heap) (locs : List Loc) (ls : Array Slot), lv_has ls 5 [(0, .ref (g.2.1 50)), (1, .int x1), (2, .int x2), (3, .int x3)] → GW g s (mkS σ [(3214, v_far), (3215, v_heaps), (3212, v_isMeasured)] [] [(59, v_wayOf)] []) H locs → M_isFolded_n31 k21 k31 (σ.1 3203) x1 x2 x3 v_far v_heaps v_isMeasured v_wayOf = some (r, w_far, w_heaps, w_isMeasured, w_wayOf) → Wg p l e 3 67 s m args below meth c g (some (.int r)) (mkS σ [(3214, w_far), (3215, w_heaps), (3212, w_isMeasured)] [] [(59, w_wayOf)] []) H locs (F0 m 31 ls []) := by
    intro k21 hk21 k31 hk31 x1 x2 x3 v_far v_heaps v_isMeasured v_wayOf H locs ls hl hG h
    unfold M_isFolded_n31 at h
    refine lv_iload_n hx hb dX9_isFolded_31 rfl (lv_at hl 3 rfl) ?_
    refine lv_aload_n hx hb dX9_isFolded_32 rfl (lv_at hl 0 rfl) ?_
    refine gx_get (v := .int (σ.1 3203)) (C := RX9) (T := TX9) (N := 44) hx hb hts mc_X9 hown hK hG (ga_50 g _) rfl 3 (by decide) hw0 rfl rfl dX9_isFolded_33 ?_
    refine lv_icmp_ge (tgt := 108) hx hb dX9_isFolded_36 (by decide) (fun c13 => ?_) (fun c13 => ?_)
    · have h := ite_t c13 h
      exact n108 k21 hk21 x1 x2 v_far v_heaps v_isMeasured v_wayOf _ _ _ (lv_sub hl [0, 1, 2] rfl) hG h
    · have h := ite_f c13 h
      refine lv_iconst (v := (0 : Int32)) hx hb dX9_isFolded_39 (by decide) ?_
      refine lv_istore (lv' := [(4, .int (0 : Int32)), (0, .ref (g.2.1 50)), (1, .int x1), (2, .int x2), (3, .int x3)]) hx hb dX9_isFolded_40 hl (Nat.le_of_ble_eq_true rfl) rfl (fun ls hl => ?_)
      exact l42 k31 hk31 FUEL x1 x2 x3 (0 : Int32) v_far v_heaps v_isMeasured v_wayOf _ _ _ (lv_sub hl [1, 2, 3, 4, 0] rfl) hG h
  have l31 : ∀ (k21 : Int32 → Int32 → Int32 → Int32 → Int32 → (Nat → Int32) → Option (Int32 × Int32 × Int32 × Int32 × (Nat → Int32))) (hk21 : ∀ (x1 : Int32) (x2 : Int32) (v_far : Int32) (v_heaps : Int32) (v_isMeasured : Int32) (v_wayOf : Nat → Int32) (H : Heap) (locs : List Loc) (ls : Array Slot), lv_has ls 5 [(0, .ref (g.2.1 50)), (1, .int x1), (2, .int x2)] → GW g s (mkS σ [(3214, v_far), (3215, v_heaps), (3212, v_isMeasured)] [] [(59, v_wayOf)] []) H locs → k21 x1 x2 v_far v_heaps v_isMeasured v_wayOf = some (r, w_far, w_heaps, w_isMeasured, w_wayOf) → Wg p l e 3 67 s m args below meth c g (some (.int r)) (mkS σ [(3214, w_far), (3215, w_heaps), (3212, w_isMeasured)] [] [(59, w_wayOf)] []) H locs (F0 m 21 ls [])) (F : Nat) (x1 : Int32) (x2 : Int32) (x3 : Int32) (v_far : Int32) (v_heaps : Int32) (v_isMeasured : Int32) (v_wayOf : Nat → Int32) (H : Heap) (locs : List Loc) (ls : Array Slot), lv_has ls 5 [(0, .ref (g.2.1 50)), (1, .int x1), (2, .int x2), (3, .int x3)] → GW g s (mkS σ [(3214, v_far), (3215, v_heaps), (3212, v_isMeasured)] [] [(59, v_wayOf)] []) H locs → M_isFolded_l31 k21 (σ.1 3203) F x1 x2 x3 v_far v_heaps v_isMeasured v_wayOf = some (r, w_far, w_heaps, w_isMeasured, w_wayOf) → Wg p l e 3 67 s m args below meth c g (some (.int r)) (mkS σ [(3214, w_far), (3215, w_heaps), (3212, w_isMeasured)] [] [(59, w_wayOf)] []) H locs (F0 m 31 ls []) := by
    intro k21 hk21 F
    induction F with
    | zero => intro x1 x2 x3 v_far v_heaps v_isMeasured v_wayOf H locs ls hl hG h; exact no_some h
    | succ F ih => intro x1 x2 x3 v_far v_heaps v_isMeasured v_wayOf H locs ls hl hG h; exact n31 k21 hk21 (fun x1 x2 x3 v_far v_heaps v_isMeasured v_wayOf => M_isFolded_l31 k21 (σ.1 3203) F x1 x2 x3 v_far v_heaps v_isMeasured v_wayOf) ih x1 x2 x3 v_far v_heaps v_isMeasured v_wayOf H locs ls hl hG h
  have n114 : ∀ (x1 : Int32) (v_far : Int32) (v_heaps : Int32) (v_isMeasured : Int32) (v_wayOf : Nat → Int32) (H : Heap) (locs : List Loc) (ls : Array Slot), lv_has ls 5 [(1, .int x1)] → GW g s (mkS σ [(3214, v_far), (3215, v_heaps), (3212, v_isMeasured)] [] [(59, v_wayOf)] []) H locs → M_isFolded_n114 x1 v_far v_heaps v_isMeasured v_wayOf = some (r, w_far, w_heaps, w_isMeasured, w_wayOf) → Wg p l e 3 67 s m args below meth c g (some (.int r)) (mkS σ [(3214, w_far), (3215, w_heaps), (3212, w_isMeasured)] [] [(59, w_wayOf)] []) H locs (F0 m 114 ls []) := by
    intro x1 v_far v_heaps v_isMeasured v_wayOf H locs ls hl hG h
    unfold M_isFolded_n114 at h
    refine lv_iload_n hx hb dX9_isFolded_114 rfl (lv_at hl 0 rfl) ?_
    obtain ⟨hg14, h⟩ := gd_some h
    cases h
    exact gx_zret hx hb hr hlocks hg14 hG dX9_isFolded_115
  have n21 : ∀ (k21 : Int32 → Int32 → Int32 → Int32 → Int32 → (Nat → Int32) → Option (Int32 × Int32 × Int32 × Int32 × (Nat → Int32))) (hk21 : ∀ (x1 : Int32) (x2 : Int32) (v_far : Int32) (v_heaps : Int32) (v_isMeasured : Int32) (v_wayOf : Nat → Int32) (H : Heap) (locs : List Loc) (ls : Array Slot), lv_has ls 5 [(0, .ref (g.2.1 50)), (1, .int x1), (2, .int x2)] → GW g s (mkS σ [(3214, v_far), (3215, v_heaps), (3212, v_isMeasured)] [] [(59, v_wayOf)] []) H locs → k21 x1 x2 v_far v_heaps v_isMeasured v_wayOf = some (r, w_far, w_heaps, w_isMeasured, w_wayOf) → Wg p l e 3 67 s m args below meth c g (some (.int r)) (mkS σ [(3214, w_far), (3215, w_heaps), (3212, w_isMeasured)] [] [(59, w_wayOf)] []) H locs (F0 m 21 ls [])) (x1 : Int32) (x2 : Int32) (v_far : Int32) (v_heaps : Int32) (v_isMeasured : Int32) (v_wayOf : Nat → Int32) (H : Heap) (locs : List Loc) (ls : Array Slot), lv_has ls 5 [(0, .ref (g.2.1 50)), (1, .int x1), (2, .int x2)] → GW g s (mkS σ [(3214, v_far), (3215, v_heaps), (3212, v_isMeasured)] [] [(59, v_wayOf)] []) H locs → M_isFolded_n21 k21 (σ.1 3203) x1 x2 v_far v_heaps v_isMeasured v_wayOf = some (r, w_far, w_heaps, w_isMeasured, w_wayOf) → Wg p l e 3 67 s m args below meth c g (some (.int r)) (mkS σ [(3214, w_far), (3215, w_heaps), (3212, w_isMeasured)] [] [(59, w_wayOf)] []) H locs (F0 m 21 ls []) := by
    intro k21 hk21 x1 x2 v_far v_heaps v_isMeasured v_wayOf H locs ls hl hG h
    unfold M_isFolded_n21 at h
    refine lv_iload_n hx hb dX9_isFolded_21 rfl (lv_at hl 2 rfl) ?_
    refine lv_aload_n hx hb dX9_isFolded_22 rfl (lv_at hl 0 rfl) ?_
    refine gx_get (v := .int (σ.1 3203)) (C := RX9) (T := TX9) (N := 44) hx hb hts mc_X9 hown hK hG (ga_50 g _) rfl 3 (by decide) hw0 rfl rfl dX9_isFolded_23 ?_
    refine lv_icmp_ge (tgt := 114) hx hb dX9_isFolded_26 (by decide) (fun c15 => ?_) (fun c15 => ?_)
    · have h := ite_t c15 h
      exact n114 x1 v_far v_heaps v_isMeasured v_wayOf _ _ _ (lv_sub hl [1] rfl) hG h
    · have h := ite_f c15 h
      refine lv_iconst (v := (0 : Int32)) hx hb dX9_isFolded_29 (by decide) ?_
      refine lv_istore_n (lv' := [(3, .int (0 : Int32)), (0, .ref (g.2.1 50)), (1, .int x1), (2, .int x2)]) hx hb dX9_isFolded_30 rfl hl (Nat.le_of_ble_eq_true rfl) rfl (fun ls hl => ?_)
      exact l31 k21 hk21 FUEL x1 x2 (0 : Int32) v_far v_heaps v_isMeasured v_wayOf _ _ _ (lv_sub hl [1, 2, 3, 0] rfl) hG h
  have l21 : ∀  (F : Nat) (x1 : Int32) (x2 : Int32) (v_far : Int32) (v_heaps : Int32) (v_isMeasured : Int32) (v_wayOf : Nat → Int32) (H : Heap) (locs : List Loc) (ls : Array Slot), lv_has ls 5 [(0, .ref (g.2.1 50)), (1, .int x1), (2, .int x2)] → GW g s (mkS σ [(3214, v_far), (3215, v_heaps), (3212, v_isMeasured)] [] [(59, v_wayOf)] []) H locs → M_isFolded_l21 (σ.1 3203) F x1 x2 v_far v_heaps v_isMeasured v_wayOf = some (r, w_far, w_heaps, w_isMeasured, w_wayOf) → Wg p l e 3 67 s m args below meth c g (some (.int r)) (mkS σ [(3214, w_far), (3215, w_heaps), (3212, w_isMeasured)] [] [(59, w_wayOf)] []) H locs (F0 m 21 ls []) := by
    intro F
    induction F with
    | zero => intro x1 x2 v_far v_heaps v_isMeasured v_wayOf H locs ls hl hG h; exact no_some h
    | succ F ih => intro x1 x2 v_far v_heaps v_isMeasured v_wayOf H locs ls hl hG h; exact n21 (fun x1 x2 v_far v_heaps v_isMeasured v_wayOf => M_isFolded_l21 (σ.1 3203) F x1 x2 v_far v_heaps v_isMeasured v_wayOf) ih x1 x2 v_far v_heaps v_isMeasured v_wayOf H locs ls hl hG h
  refine lv_aload_n hx hb dX9_isFolded_0 rfl (lv_at hl 0 rfl) ?_
  obtain ⟨z16, hc17, h⟩ := bnd_some h
  refine gx_cV (σ' := (mkS σ [(3214, z16.2.1), (3215, z16.2.2.1), (3212, z16.2.2.2.1)] [] [(59, z16.2.2.2.2)] [])) (r := (some (.int z16.1))) (rest := []) (As := []) hS9 (c_M_isWhole l g (mkS σ [(3214, (σ.1 3214)), (3215, (σ.1 3215)), (3212, (σ.1 3212))] [] [(59, (σ.2.2.1 59))] []) z16.1 z16.2.1 z16.2.2.1 z16.2.2.2.1 z16.2.2.2.2 hc17) (mk_mk rfl rfl rfl rfl) (cwV 0 hts (gz_V mw_5_157 mw_5_159 ms_4_2 mw_1_11 mw_5_160) rfl rfl rfl hdV_X9_isWhole ⟨Nat.le_of_ble_eq_true rfl, Nat.le_of_ble_eq_true rfl⟩) hK hG (ga_50 g _) rfl rfl rfl hl.1 rfl (Nat.le_of_ble_eq_true rfl) dX9_isFolded_1 (fun H locs hG => ?_)
  refine W.eq (g2 := F0 m 4 ls [.int z16.1]) rfl ?_
  refine lv_if_eq (tgt := 15) hx hb dX9_isFolded_4 (by decide) (fun c18 => ?_) (fun c18 => ?_)
  · have h := ite_t c18 h
    exact n15 z16.2.1 z16.2.2.1 z16.2.2.2.1 z16.2.2.2.2 _ _ _ (lv_sub hl [] rfl) hG h
  · have h := ite_f c18 h
    refine lv_aload_n hx hb dX9_isFolded_7 rfl (lv_at hl 0 rfl) ?_
    refine gx_get (v := .int z16.2.1) (C := RX9) (T := TX9) (N := 44) hx hb hts mc_X9 hown hK hG (ga_50 g _) rfl 14 (by decide) hw1 rfl rfl dX9_isFolded_8 ?_
    refine lv_iconst (v := (1 : Int32)) hx hb dX9_isFolded_11 (by decide) ?_
    refine lv_icmp_ge (tgt := 17) hx hb dX9_isFolded_12 (by decide) (fun c19 => ?_) (fun c19 => ?_)
    · have h := ite_t c19 h
      refine lv_iconst (v := (1 : Int32)) hx hb dX9_isFolded_17 (by decide) ?_
      refine lv_istore_n (lv' := [(1, .int (1 : Int32)), (0, .ref (g.2.1 50))]) hx hb dX9_isFolded_18 rfl hl (Nat.le_of_ble_eq_true rfl) rfl (fun ls hl => ?_)
      refine lv_iconst (v := (0 : Int32)) hx hb dX9_isFolded_19 (by decide) ?_
      refine lv_istore_n (lv' := [(2, .int (0 : Int32)), (1, .int (1 : Int32)), (0, .ref (g.2.1 50))]) hx hb dX9_isFolded_20 rfl hl (Nat.le_of_ble_eq_true rfl) rfl (fun ls hl => ?_)
      exact l21 FUEL (1 : Int32) (0 : Int32) z16.2.1 z16.2.2.1 z16.2.2.2.1 z16.2.2.2.2 _ _ _ (lv_sub hl [2, 1, 0] rfl) hG h
    · have h := ite_f c19 h
      exact n15 z16.2.1 z16.2.2.1 z16.2.2.2.1 z16.2.2.2.2 _ _ _ (lv_sub hl [] rfl) hG h

set_option maxHeartbeats 4000000 in
set_option maxRecDepth 100000 in
theorem c_M_clearNew (l : Launch) (g : GC) (σ : St) (w_newRoad : Nat → Int32) (h : M_clearNew (σ.2.2.1 70) = some w_newRoad) : Cn l g yX9_clearNew (Cond.code yX9_clearNew cX9_clearNew 2 none :: wG) 0 0 [.ref (g.2.1 50)] σ none (mkS σ [] [] [(70, w_newRoad)] []) := by
  unfold Cn
  refine Met.ofW (cc := cX9_clearNew) (maxL := 2) (ret := none) (by decide) rfl ?_
  intro p e s m args below meth c s₁ B hml hv
  obtain ⟨hargs, hP0, hK⟩ := hv
  have hx := B.exec
  have hb := B.bytes
  have hr := B.returns
  have hts : ∀ w ∈ wG, w.before args s = true := fun w h => atoms_spec (ws := (Cond.code yX9_clearNew cX9_clearNew 2 none :: wG)) B.pre w (List.mem_cons_of_mem _ h)
  have hown : s.vm.findClass RX9 = some m.cls := findClass_of_methodNamed B.named
  have hlocks := B.notSynchronized
  have hw0 := hts _ mw_4_168
  have hf9 : entryFrame m args 2 = _ := (congrArg (fun a => entryFrame m a 2) hargs).trans (lg_entry_eq m [.ref (g.2.1 50)] 2)
  show Wg p l e 0 0 s m args below meth c g none (mkS σ [] [] [(70, w_newRoad)] []) s.heap [] (entryFrame m args 2)
  rw [hf9]
  have hl := lv_entry ([.ref (g.2.1 50)]) (n := 2) (Nat.le_of_ble_eq_true rfl)
  generalize (lg_sl ([.ref (g.2.1 50)]) ++ List.replicate (2 - (lg_sl ([.ref (g.2.1 50)])).length) Slot.unset).toArray = ls at hl ⊢
  have hl : lv_has ls 2 [(0, .ref (g.2.1 50))] := hl
  have hG : GW g s σ s.heap [] := ⟨hP0, va_S.rf⟩
  have hG : GW g s (mkS σ [] [] [(70, (σ.2.2.1 70))] []) s.heap [] := GW_self [] [] [70] [] hG
  unfold M_clearNew at h
  have n22 : ∀ (v_newRoad : Nat → Int32) (H : Heap) (locs : List Loc) (ls : Array Slot), lv_has ls 2 [] → GW g s (mkS σ [] [] [(70, v_newRoad)] []) H locs → M_clearNew_n22 v_newRoad = some w_newRoad → Wg p l e 0 0 s m args below meth c g none (mkS σ [] [] [(70, w_newRoad)] []) H locs (F0 m 22 ls []) := by
    intro v_newRoad H locs ls hl hG h
    unfold M_clearNew_n22 at h
    cases h
    exact gx_vret hx hb hr hlocks hG dX9_clearNew_22
  have n2 : ∀ (k2 : Int32 → (Nat → Int32) → Option ((Nat → Int32))) (hk2 : ∀ (x1 : Int32) (v_newRoad : Nat → Int32) (H : Heap) (locs : List Loc) (ls : Array Slot), lv_has ls 2 [(0, .ref (g.2.1 50)), (1, .int x1)] → GW g s (mkS σ [] [] [(70, v_newRoad)] []) H locs → k2 x1 v_newRoad = some w_newRoad → Wg p l e 0 0 s m args below meth c g none (mkS σ [] [] [(70, w_newRoad)] []) H locs (F0 m 2 ls [])) (x1 : Int32) (v_newRoad : Nat → Int32) (H : Heap) (locs : List Loc) (ls : Array Slot), lv_has ls 2 [(0, .ref (g.2.1 50)), (1, .int x1)] → GW g s (mkS σ [] [] [(70, v_newRoad)] []) H locs → M_clearNew_n2 k2 x1 v_newRoad = some w_newRoad → Wg p l e 0 0 s m args below meth c g none (mkS σ [] [] [(70, w_newRoad)] []) H locs (F0 m 2 ls []) := by
    intro k2 hk2 x1 v_newRoad H locs ls hl hG h
    unfold M_clearNew_n2 at h
    refine lv_iload_n hx hb dX9_clearNew_2 rfl (lv_at hl 1 rfl) ?_
    refine lv_sipush (v := (1024 : Int32)) hx hb dX9_clearNew_3 (by decide) ?_
    refine lv_icmp_ge (tgt := 22) hx hb dX9_clearNew_6 (by decide) (fun c1 => ?_) (fun c1 => ?_)
    · have h := ite_t c1 h
      exact n22 v_newRoad _ _ _ (lv_sub hl [] rfl) hG h
    · have h := ite_f c1 h
      refine lv_aload_n hx hb dX9_clearNew_9 rfl (lv_at hl 0 rfl) ?_
      refine gx_get (v := .ref (g.2.1 70)) (C := RX9) (T := TX9) (N := 44) hx hb hts mc_X9 hown hK hG (ga_50 g _) rfl 29 (by decide) hw0 rfl rfl dX9_clearNew_10 ?_
      refine lv_iload_n hx hb dX9_clearNew_13 rfl (lv_at hl 1 rfl) ?_
      refine lv_iconst (v := (0 : Int32)) hx hb dX9_clearNew_14 (by decide) ?_
      obtain ⟨hg2, h⟩ := gd_some h
      refine gx_zast (σ' := (mkS σ [] [] [(70, (upd v_newRoad (x1.toNatClampNeg) (0 : Int32)))] [])) (f := v_newRoad) hx hb hK hG (ga_70 g _) hg2 (by decide) ((gs_70 g _ _).trans (congrArg (g_cells g) (mk_c 0 rfl rfl))) dX9_clearNew_15 (fun H locs hG => ?_)
      refine lv_iinc (v := (x1 + (1 : Int32))) (lv' := [(1, .int (x1 + (1 : Int32))), (0, .ref (g.2.1 50))]) hx hb dX9_clearNew_16 hl (k := 1) rfl (congrArg (fun z => x1 + z) (by decide)) (Nat.le_of_ble_eq_true rfl) rfl (fun ls hl => ?_)
      refine lv_goto (tgt := 2) hx hb dX9_clearNew_19 (by decide) ?_
      exact hk2 (x1 + (1 : Int32)) (upd v_newRoad (x1.toNatClampNeg) (0 : Int32)) _ _ _ (lv_sub hl [1, 0] rfl) hG h
  have l2 : ∀  (F : Nat) (x1 : Int32) (v_newRoad : Nat → Int32) (H : Heap) (locs : List Loc) (ls : Array Slot), lv_has ls 2 [(0, .ref (g.2.1 50)), (1, .int x1)] → GW g s (mkS σ [] [] [(70, v_newRoad)] []) H locs → M_clearNew_l2 F x1 v_newRoad = some w_newRoad → Wg p l e 0 0 s m args below meth c g none (mkS σ [] [] [(70, w_newRoad)] []) H locs (F0 m 2 ls []) := by
    intro F
    induction F with
    | zero => intro x1 v_newRoad H locs ls hl hG h; exact no_some h
    | succ F ih => intro x1 v_newRoad H locs ls hl hG h; exact n2 (fun x1 v_newRoad => M_clearNew_l2 F x1 v_newRoad) ih x1 v_newRoad H locs ls hl hG h
  refine lv_iconst (v := (0 : Int32)) hx hb dX9_clearNew_0 (by decide) ?_
  refine lv_istore_n (lv' := [(1, .int (0 : Int32)), (0, .ref (g.2.1 50))]) hx hb dX9_clearNew_1 rfl hl (Nat.le_of_ble_eq_true rfl) rfl (fun ls hl => ?_)
  exact l2 FUEL (0 : Int32) (σ.2.2.1 70) _ _ _ (lv_sub hl [1, 0] rfl) hG h

set_option maxHeartbeats 4000000 in
set_option maxRecDepth 100000 in
theorem c_M_fold (l : Launch) (g : GC) (σ : St) (r : Int32) (w_areKindsFound : Int32) (w_far : Int32) (w_heaps : Int32) (w_isMeasured : Int32) (w_posts : Int32) (w_newRoad : Nat → Int32) (w_numberOf : Nat → Int32) (w_road : Nat → Int32) (w_wayOf : Nat → Int32) (h : M_fold (σ.1 3238) (σ.1 3214) (σ.1 3215) (σ.1 3212) (σ.1 3203) (σ.2.2.1 70) (σ.2.2.1 71) (σ.2.2.1 54) (σ.2.2.1 59) = some (r, w_areKindsFound, w_far, w_heaps, w_isMeasured, w_posts, w_newRoad, w_numberOf, w_road, w_wayOf)) : Cn l g yX9_fold (Cond.code yX9_fold cX9_fold 4 (some .int) :: wG) 4 91 [.ref (g.2.1 50)] σ (some (.int r)) (mkS σ [(3238, w_areKindsFound), (3214, w_far), (3215, w_heaps), (3212, w_isMeasured), (3203, w_posts)] [] [(70, w_newRoad), (71, w_numberOf), (54, w_road), (59, w_wayOf)] []) := by
  unfold Cn
  refine Met.ofW (cc := cX9_fold) (maxL := 4) (ret := (some .int)) (by decide) rfl ?_
  intro p e s m args below meth c s₁ B hml hv
  obtain ⟨hargs, hP0, hK⟩ := hv
  have hx := B.exec
  have hb := B.bytes
  have hr := B.returns
  have hts : ∀ w ∈ wG, w.before args s = true := fun w h => atoms_spec (ws := (Cond.code yX9_fold cX9_fold 4 (some .int) :: wG)) B.pre w (List.mem_cons_of_mem _ h)
  have hown : s.vm.findClass RX9 = some m.cls := findClass_of_methodNamed B.named
  have hlocks := B.notSynchronized
  have hS9 : CallFix p m c cX9_fold 4 s args wG RX9 := ⟨hx, hb, hml, hown, hts⟩
  have hw0 := hts _ mw_4_169
  have hw1 := hts _ mw_4_142
  have hw2 := hts _ mw_4_143
  have hw3 := hts _ mw_4_168
  have hf9 : entryFrame m args 4 = _ := (congrArg (fun a => entryFrame m a 4) hargs).trans (lg_entry_eq m [.ref (g.2.1 50)] 4)
  show Wg p l e 4 91 s m args below meth c g (some (.int r)) (mkS σ [(3238, w_areKindsFound), (3214, w_far), (3215, w_heaps), (3212, w_isMeasured), (3203, w_posts)] [] [(70, w_newRoad), (71, w_numberOf), (54, w_road), (59, w_wayOf)] []) s.heap [] (entryFrame m args 4)
  rw [hf9]
  have hl := lv_entry ([.ref (g.2.1 50)]) (n := 4) (Nat.le_of_ble_eq_true rfl)
  generalize (lg_sl ([.ref (g.2.1 50)]) ++ List.replicate (4 - (lg_sl ([.ref (g.2.1 50)])).length) Slot.unset).toArray = ls at hl ⊢
  have hl : lv_has ls 4 [(0, .ref (g.2.1 50))] := hl
  have hG : GW g s σ s.heap [] := ⟨hP0, va_S.rf⟩
  have hG : GW g s (mkS σ [(3238, (σ.1 3238)), (3214, (σ.1 3214)), (3215, (σ.1 3215)), (3212, (σ.1 3212)), (3203, (σ.1 3203))] [] [(70, (σ.2.2.1 70)), (71, (σ.2.2.1 71)), (54, (σ.2.2.1 54)), (59, (σ.2.2.1 59))] []) s.heap [] := GW_self [3238, 3214, 3215, 3212, 3203] [] [70, 71, 54, 59] [] hG
  unfold M_fold at h
  have n65 : ∀ (k31 : Int32 → Int32 → Int32 → Int32 → Int32 → Int32 → Int32 → Int32 → (Nat → Int32) → (Nat → Int32) → (Nat → Int32) → (Nat → Int32) → Option (Int32 × Int32 × Int32 × Int32 × Int32 × Int32 × (Nat → Int32) × (Nat → Int32) × (Nat → Int32) × (Nat → Int32))) (hk31 : ∀ (x1 : Int32) (x2 : Int32) (x3 : Int32) (v_areKindsFound : Int32) (v_far : Int32) (v_heaps : Int32) (v_isMeasured : Int32) (v_posts : Int32) (v_newRoad : Nat → Int32) (v_numberOf : Nat → Int32) (v_road : Nat → Int32) (v_wayOf : Nat → Int32) (H : Heap) (locs : List Loc) (ls : Array Slot), lv_has ls 4 [(0, .ref (g.2.1 50)), (1, .int x1), (2, .int x2), (3, .int x3)] → GW g s (mkS σ [(3238, v_areKindsFound), (3214, v_far), (3215, v_heaps), (3212, v_isMeasured), (3203, v_posts)] [] [(70, v_newRoad), (71, v_numberOf), (54, v_road), (59, v_wayOf)] []) H locs → k31 x1 x2 x3 v_areKindsFound v_far v_heaps v_isMeasured v_posts v_newRoad v_numberOf v_road v_wayOf = some (r, w_areKindsFound, w_far, w_heaps, w_isMeasured, w_posts, w_newRoad, w_numberOf, w_road, w_wayOf) → Wg p l e 4 91 s m args below meth c g (some (.int r)) (mkS σ [(3238, w_areKindsFound), (3214, w_far), (3215, w_heaps), (3212, w_isMeasured), (3203, w_posts)] [] [(70, w_newRoad), (71, w_numberOf), (54, w_road), (59, w_wayOf)] []) H locs (F0 m 31 ls [])) (x1 : Int32) (x2 : Int32) (x3 : Int32) (t1 : Int32) (t2 : Int32) (v_areKindsFound : Int32) (v_far : Int32) (v_heaps : Int32) (v_isMeasured : Int32) (v_posts : Int32) (v_newRoad : Nat → Int32) (v_numberOf : Nat → Int32) (v_road : Nat → Int32) (v_wayOf : Nat → Int32) (H : Heap) (locs : List Loc) (ls : Array Slot), lv_has ls 4 [(0, .ref (g.2.1 50)), (1, .int x1), (2, .int x2), (3, .int x3)] → GW g s (mkS σ [(3238, v_areKindsFound), (3214, v_far), (3215, v_heaps), (3212, v_isMeasured), (3203, v_posts)] [] [(70, v_newRoad), (71, v_numberOf), (54, v_road), (59, v_wayOf)] []) H locs → M_fold_n65 k31 x1 x2 x3 t1 t2 v_areKindsFound v_far v_heaps v_isMeasured v_posts v_newRoad v_numberOf v_road v_wayOf = some (r, w_areKindsFound, w_far, w_heaps, w_isMeasured, w_posts, w_newRoad, w_numberOf, w_road, w_wayOf) → Wg p l e 4 91 s m args below meth c g (some (.int r)) (mkS σ [(3238, w_areKindsFound), (3214, w_far), (3215, w_heaps), (3212, w_isMeasured), (3203, w_posts)] [] [(70, w_newRoad), (71, w_numberOf), (54, w_road), (59, w_wayOf)] []) H locs (F0 m 65 ls [.int t2, .int t1, .ref (g.2.1 71)]) := by
    intro k31 hk31 x1 x2 x3 t1 t2 v_areKindsFound v_far v_heaps v_isMeasured v_posts v_newRoad v_numberOf v_road v_wayOf H locs ls hl hG h
    unfold M_fold_n65 at h
    obtain ⟨hg1, h⟩ := gd_some h
    refine gx_iast (σ' := (mkS σ [(3238, v_areKindsFound), (3214, v_far), (3215, v_heaps), (3212, v_isMeasured), (3203, v_posts)] [] [(70, v_newRoad), (71, (upd v_numberOf (t1.toNatClampNeg) t2)), (54, v_road), (59, v_wayOf)] [])) (f := v_numberOf) hx hb hK hG (ga_71 g _) hg1 ((gs_71 g _ _).trans (congrArg (g_cells g) (mk_c 1 rfl rfl))) dX9_fold_65 (fun H locs hG => ?_)
    refine lv_iinc (v := (x3 + (1 : Int32))) (lv' := [(3, .int (x3 + (1 : Int32))), (0, .ref (g.2.1 50)), (1, .int x1), (2, .int x2)]) hx hb dX9_fold_66 hl (k := 3) rfl (congrArg (fun z => x3 + z) (by decide)) (Nat.le_of_ble_eq_true rfl) rfl (fun ls hl => ?_)
    refine lv_goto (tgt := 31) hx hb dX9_fold_69 (by decide) ?_
    exact hk31 x1 x2 (x3 + (1 : Int32)) v_areKindsFound v_far v_heaps v_isMeasured v_posts v_newRoad (upd v_numberOf (t1.toNatClampNeg) t2) v_road v_wayOf _ _ _ (lv_sub hl [1, 2, 3, 0] rfl) hG h
  have n91 : ∀ (k14 : Int32 → Int32 → Int32 → Int32 → Int32 → Int32 → Int32 → (Nat → Int32) → (Nat → Int32) → (Nat → Int32) → (Nat → Int32) → Option (Int32 × Int32 × Int32 × Int32 × Int32 × Int32 × (Nat → Int32) × (Nat → Int32) × (Nat → Int32) × (Nat → Int32))) (hk14 : ∀ (x1 : Int32) (x2 : Int32) (v_areKindsFound : Int32) (v_far : Int32) (v_heaps : Int32) (v_isMeasured : Int32) (v_posts : Int32) (v_newRoad : Nat → Int32) (v_numberOf : Nat → Int32) (v_road : Nat → Int32) (v_wayOf : Nat → Int32) (H : Heap) (locs : List Loc) (ls : Array Slot), lv_has ls 4 [(0, .ref (g.2.1 50)), (1, .int x1), (2, .int x2)] → GW g s (mkS σ [(3238, v_areKindsFound), (3214, v_far), (3215, v_heaps), (3212, v_isMeasured), (3203, v_posts)] [] [(70, v_newRoad), (71, v_numberOf), (54, v_road), (59, v_wayOf)] []) H locs → k14 x1 x2 v_areKindsFound v_far v_heaps v_isMeasured v_posts v_newRoad v_numberOf v_road v_wayOf = some (r, w_areKindsFound, w_far, w_heaps, w_isMeasured, w_posts, w_newRoad, w_numberOf, w_road, w_wayOf) → Wg p l e 4 91 s m args below meth c g (some (.int r)) (mkS σ [(3238, w_areKindsFound), (3214, w_far), (3215, w_heaps), (3212, w_isMeasured), (3203, w_posts)] [] [(70, w_newRoad), (71, w_numberOf), (54, w_road), (59, w_wayOf)] []) H locs (F0 m 14 ls [])) (x1 : Int32) (x2 : Int32) (v_areKindsFound : Int32) (v_far : Int32) (v_heaps : Int32) (v_isMeasured : Int32) (v_posts : Int32) (v_newRoad : Nat → Int32) (v_numberOf : Nat → Int32) (v_road : Nat → Int32) (v_wayOf : Nat → Int32) (H : Heap) (locs : List Loc) (ls : Array Slot), lv_has ls 4 [(0, .ref (g.2.1 50)), (1, .int x1), (2, .int x2)] → GW g s (mkS σ [(3238, v_areKindsFound), (3214, v_far), (3215, v_heaps), (3212, v_isMeasured), (3203, v_posts)] [] [(70, v_newRoad), (71, v_numberOf), (54, v_road), (59, v_wayOf)] []) H locs → M_fold_n91 k14 x1 x2 v_areKindsFound v_far v_heaps v_isMeasured v_posts v_newRoad v_numberOf v_road v_wayOf = some (r, w_areKindsFound, w_far, w_heaps, w_isMeasured, w_posts, w_newRoad, w_numberOf, w_road, w_wayOf) → Wg p l e 4 91 s m args below meth c g (some (.int r)) (mkS σ [(3238, w_areKindsFound), (3214, w_far), (3215, w_heaps), (3212, w_isMeasured), (3203, w_posts)] [] [(70, w_newRoad), (71, w_numberOf), (54, w_road), (59, w_wayOf)] []) H locs (F0 m 91 ls []) := by
    intro k14 hk14 x1 x2 v_areKindsFound v_far v_heaps v_isMeasured v_posts v_newRoad v_numberOf v_road v_wayOf H locs ls hl hG h
    unfold M_fold_n91 at h
    refine lv_iinc (v := (x2 + (1 : Int32))) (lv' := [(2, .int (x2 + (1 : Int32))), (0, .ref (g.2.1 50)), (1, .int x1)]) hx hb dX9_fold_91 hl (k := 2) rfl (congrArg (fun z => x2 + z) (by decide)) (Nat.le_of_ble_eq_true rfl) rfl (fun ls hl => ?_)
    refine lv_goto (tgt := 14) hx hb dX9_fold_94 (by decide) ?_
    exact hk14 x1 (x2 + (1 : Int32)) v_areKindsFound v_far v_heaps v_isMeasured v_posts v_newRoad v_numberOf v_road v_wayOf _ _ _ (lv_sub hl [1, 2, 0] rfl) hG h
  have n72 : ∀ (k14 : Int32 → Int32 → Int32 → Int32 → Int32 → Int32 → Int32 → (Nat → Int32) → (Nat → Int32) → (Nat → Int32) → (Nat → Int32) → Option (Int32 × Int32 × Int32 × Int32 × Int32 × Int32 × (Nat → Int32) × (Nat → Int32) × (Nat → Int32) × (Nat → Int32))) (hk14 : ∀ (x1 : Int32) (x2 : Int32) (v_areKindsFound : Int32) (v_far : Int32) (v_heaps : Int32) (v_isMeasured : Int32) (v_posts : Int32) (v_newRoad : Nat → Int32) (v_numberOf : Nat → Int32) (v_road : Nat → Int32) (v_wayOf : Nat → Int32) (H : Heap) (locs : List Loc) (ls : Array Slot), lv_has ls 4 [(0, .ref (g.2.1 50)), (1, .int x1), (2, .int x2)] → GW g s (mkS σ [(3238, v_areKindsFound), (3214, v_far), (3215, v_heaps), (3212, v_isMeasured), (3203, v_posts)] [] [(70, v_newRoad), (71, v_numberOf), (54, v_road), (59, v_wayOf)] []) H locs → k14 x1 x2 v_areKindsFound v_far v_heaps v_isMeasured v_posts v_newRoad v_numberOf v_road v_wayOf = some (r, w_areKindsFound, w_far, w_heaps, w_isMeasured, w_posts, w_newRoad, w_numberOf, w_road, w_wayOf) → Wg p l e 4 91 s m args below meth c g (some (.int r)) (mkS σ [(3238, w_areKindsFound), (3214, w_far), (3215, w_heaps), (3212, w_isMeasured), (3203, w_posts)] [] [(70, w_newRoad), (71, w_numberOf), (54, w_road), (59, w_wayOf)] []) H locs (F0 m 14 ls [])) (x1 : Int32) (x2 : Int32) (v_areKindsFound : Int32) (v_far : Int32) (v_heaps : Int32) (v_isMeasured : Int32) (v_posts : Int32) (v_newRoad : Nat → Int32) (v_numberOf : Nat → Int32) (v_road : Nat → Int32) (v_wayOf : Nat → Int32) (H : Heap) (locs : List Loc) (ls : Array Slot), lv_has ls 4 [(0, .ref (g.2.1 50)), (1, .int x1), (2, .int x2)] → GW g s (mkS σ [(3238, v_areKindsFound), (3214, v_far), (3215, v_heaps), (3212, v_isMeasured), (3203, v_posts)] [] [(70, v_newRoad), (71, v_numberOf), (54, v_road), (59, v_wayOf)] []) H locs → M_fold_n72 k14 x1 x2 v_areKindsFound v_far v_heaps v_isMeasured v_posts v_newRoad v_numberOf v_road v_wayOf = some (r, w_areKindsFound, w_far, w_heaps, w_isMeasured, w_posts, w_newRoad, w_numberOf, w_road, w_wayOf) → Wg p l e 4 91 s m args below meth c g (some (.int r)) (mkS σ [(3238, w_areKindsFound), (3214, w_far), (3215, w_heaps), (3212, w_isMeasured), (3203, w_posts)] [] [(70, w_newRoad), (71, w_numberOf), (54, w_road), (59, w_wayOf)] []) H locs (F0 m 72 ls []) := by
    intro k14 hk14 x1 x2 v_areKindsFound v_far v_heaps v_isMeasured v_posts v_newRoad v_numberOf v_road v_wayOf H locs ls hl hG h
    unfold M_fold_n72 at h
    refine lv_aload_n hx hb dX9_fold_72 rfl (lv_at hl 0 rfl) ?_
    refine gx_get (v := .ref (g.2.1 71)) (C := RX9) (T := TX9) (N := 44) hx hb hts mc_X9 hown hK hG (ga_50 g _) rfl 30 (by decide) hw0 rfl rfl dX9_fold_73 ?_
    refine lv_iload_n hx hb dX9_fold_76 rfl (lv_at hl 2 rfl) ?_
    obtain ⟨hg2, h⟩ := gd_some h
    refine gx_iald (f := v_numberOf) hx hb hK hG (ga_71 g _) hg2 dX9_fold_77 ?_
    refine lv_if_ge (tgt := 91) hx hb dX9_fold_78 (by decide) (fun c3 => ?_) (fun c3 => ?_)
    · have h := ite_t c3 h
      exact n91 k14 hk14 x1 x2 v_areKindsFound v_far v_heaps v_isMeasured v_posts v_newRoad v_numberOf v_road v_wayOf _ _ _ (lv_sub hl [0, 1, 2] rfl) hG h
    · have h := ite_f c3 h
      refine lv_aload_n hx hb dX9_fold_81 rfl (lv_at hl 0 rfl) ?_
      refine gx_get (v := .ref (g.2.1 71)) (C := RX9) (T := TX9) (N := 44) hx hb hts mc_X9 hown hK hG (ga_50 g _) rfl 30 (by decide) hw0 rfl rfl dX9_fold_82 ?_
      refine lv_iload_n hx hb dX9_fold_85 rfl (lv_at hl 2 rfl) ?_
      refine lv_iload_n hx hb dX9_fold_86 rfl (lv_at hl 1 rfl) ?_
      refine gx_iast (σ' := (mkS σ [(3238, v_areKindsFound), (3214, v_far), (3215, v_heaps), (3212, v_isMeasured), (3203, v_posts)] [] [(70, v_newRoad), (71, (upd v_numberOf (x2.toNatClampNeg) x1)), (54, v_road), (59, v_wayOf)] [])) (f := v_numberOf) hx hb hK hG (ga_71 g _) hg2 ((gs_71 g _ _).trans (congrArg (g_cells g) (mk_c 1 rfl rfl))) dX9_fold_87 (fun H locs hG => ?_)
      refine lv_iinc (v := (x1 + (1 : Int32))) (lv' := [(1, .int (x1 + (1 : Int32))), (0, .ref (g.2.1 50)), (2, .int x2)]) hx hb dX9_fold_88 hl (k := 1) rfl (congrArg (fun z => x1 + z) (by decide)) (Nat.le_of_ble_eq_true rfl) rfl (fun ls hl => ?_)
      exact n91 k14 hk14 (x1 + (1 : Int32)) x2 v_areKindsFound v_far v_heaps v_isMeasured v_posts v_newRoad (upd v_numberOf (x2.toNatClampNeg) x1) v_road v_wayOf _ _ _ (lv_sub hl [1, 0, 2] rfl) hG h
  have n31 : ∀ (k14 : Int32 → Int32 → Int32 → Int32 → Int32 → Int32 → Int32 → (Nat → Int32) → (Nat → Int32) → (Nat → Int32) → (Nat → Int32) → Option (Int32 × Int32 × Int32 × Int32 × Int32 × Int32 × (Nat → Int32) × (Nat → Int32) × (Nat → Int32) × (Nat → Int32))) (hk14 : ∀ (x1 : Int32) (x2 : Int32) (v_areKindsFound : Int32) (v_far : Int32) (v_heaps : Int32) (v_isMeasured : Int32) (v_posts : Int32) (v_newRoad : Nat → Int32) (v_numberOf : Nat → Int32) (v_road : Nat → Int32) (v_wayOf : Nat → Int32) (H : Heap) (locs : List Loc) (ls : Array Slot), lv_has ls 4 [(0, .ref (g.2.1 50)), (1, .int x1), (2, .int x2)] → GW g s (mkS σ [(3238, v_areKindsFound), (3214, v_far), (3215, v_heaps), (3212, v_isMeasured), (3203, v_posts)] [] [(70, v_newRoad), (71, v_numberOf), (54, v_road), (59, v_wayOf)] []) H locs → k14 x1 x2 v_areKindsFound v_far v_heaps v_isMeasured v_posts v_newRoad v_numberOf v_road v_wayOf = some (r, w_areKindsFound, w_far, w_heaps, w_isMeasured, w_posts, w_newRoad, w_numberOf, w_road, w_wayOf) → Wg p l e 4 91 s m args below meth c g (some (.int r)) (mkS σ [(3238, w_areKindsFound), (3214, w_far), (3215, w_heaps), (3212, w_isMeasured), (3203, w_posts)] [] [(70, w_newRoad), (71, w_numberOf), (54, w_road), (59, w_wayOf)] []) H locs (F0 m 14 ls [])) (k31 : Int32 → Int32 → Int32 → Int32 → Int32 → Int32 → Int32 → Int32 → (Nat → Int32) → (Nat → Int32) → (Nat → Int32) → (Nat → Int32) → Option (Int32 × Int32 × Int32 × Int32 × Int32 × Int32 × (Nat → Int32) × (Nat → Int32) × (Nat → Int32) × (Nat → Int32))) (hk31 : ∀ (x1 : Int32) (x2 : Int32) (x3 : Int32) (v_areKindsFound : Int32) (v_far : Int32) (v_heaps : Int32) (v_isMeasured : Int32) (v_posts : Int32) (v_newRoad : Nat → Int32) (v_numberOf : Nat → Int32) (v_road : Nat → Int32) (v_wayOf : Nat → Int32) (H : Heap) (locs : List Loc) (ls : Array Slot), lv_has ls 4 [(0, .ref (g.2.1 50)), (1, .int x1), (2, .int x2), (3, .int x3)] → GW g s (mkS σ [(3238, v_areKindsFound), (3214, v_far), (3215, v_heaps), (3212, v_isMeasured), (3203, v_posts)] [] [(70, v_newRoad), (71, v_numberOf), (54, v_road), (59, v_wayOf)] []) H locs → k31 x1 x2 x3 v_areKindsFound v_far v_heaps v_isMeasured v_posts v_newRoad v_numberOf v_road v_wayOf = some (r, w_areKindsFound, w_far, w_heaps, w_isMeasured, w_posts, w_newRoad, w_numberOf, w_road, w_wayOf) → Wg p l e 4 91 s m args below meth c g (some (.int r)) (mkS σ [(3238, w_areKindsFound), (3214, w_far), (3215, w_heaps), (3212, w_isMeasured), (3203, w_posts)] [] [(70, w_newRoad), (71, w_numberOf), (54, w_road), (59, w_wayOf)] []) H locs (F0 m 31 ls [])) (x1 : Int32) (x2 : Int32) (x3 : Int32) (v_areKindsFound : Int32) (v_far : Int32) (v_heaps : Int32) (v_isMeasured : Int32) (v_posts : Int32) (v_newRoad : Nat → Int32) (v_numberOf : Nat → Int32) (v_road : Nat → Int32) (v_wayOf : Nat → Int32) (H : Heap) (locs : List Loc) (ls : Array Slot), lv_has ls 4 [(0, .ref (g.2.1 50)), (1, .int x1), (2, .int x2), (3, .int x3)] → GW g s (mkS σ [(3238, v_areKindsFound), (3214, v_far), (3215, v_heaps), (3212, v_isMeasured), (3203, v_posts)] [] [(70, v_newRoad), (71, v_numberOf), (54, v_road), (59, v_wayOf)] []) H locs → M_fold_n31 k14 k31 x1 x2 x3 v_areKindsFound v_far v_heaps v_isMeasured v_posts v_newRoad v_numberOf v_road v_wayOf = some (r, w_areKindsFound, w_far, w_heaps, w_isMeasured, w_posts, w_newRoad, w_numberOf, w_road, w_wayOf) → Wg p l e 4 91 s m args below meth c g (some (.int r)) (mkS σ [(3238, w_areKindsFound), (3214, w_far), (3215, w_heaps), (3212, w_isMeasured), (3203, w_posts)] [] [(70, w_newRoad), (71, w_numberOf), (54, w_road), (59, w_wayOf)] []) H locs (F0 m 31 ls []) := by
    intro k14 hk14 k31 hk31 x1 x2 x3 v_areKindsFound v_far v_heaps v_isMeasured v_posts v_newRoad v_numberOf v_road v_wayOf H locs ls hl hG h
    unfold M_fold_n31 at h
    refine lv_iload_n hx hb dX9_fold_31 rfl (lv_at hl 3 rfl) ?_
    refine lv_iload_n hx hb dX9_fold_32 rfl (lv_at hl 2 rfl) ?_
    refine lv_icmp_ge (tgt := 72) hx hb dX9_fold_33 (by decide) (fun c4 => ?_) (fun c4 => ?_)
    · have h := ite_t c4 h
      exact n72 k14 hk14 x1 x2 v_areKindsFound v_far v_heaps v_isMeasured v_posts v_newRoad v_numberOf v_road v_wayOf _ _ _ (lv_sub hl [0, 1, 2] rfl) hG h
    · have h := ite_f c4 h
      refine lv_aload_n hx hb dX9_fold_36 rfl (lv_at hl 0 rfl) ?_
      refine gx_get (v := .ref (g.2.1 71)) (C := RX9) (T := TX9) (N := 44) hx hb hts mc_X9 hown hK hG (ga_50 g _) rfl 30 (by decide) hw0 rfl rfl dX9_fold_37 ?_
      refine lv_iload_n hx hb dX9_fold_40 rfl (lv_at hl 2 rfl) ?_
      refine lv_aload_n hx hb dX9_fold_41 rfl (lv_at hl 0 rfl) ?_
      refine lv_iload_n hx hb dX9_fold_42 rfl (lv_at hl 2 rfl) ?_
      refine lv_iload_n hx hb dX9_fold_43 rfl (lv_at hl 3 rfl) ?_
      obtain ⟨z5, hc6, h⟩ := bnd_some h
      refine gx_cV (σ' := (mkS σ [(3238, v_areKindsFound), (3214, v_far), (3215, v_heaps), (3212, v_isMeasured), (3203, v_posts)] [] [(70, v_newRoad), (71, v_numberOf), (54, v_road), (59, v_wayOf)] [])) (r := (some (.int z5))) (rest := [.int x2, .ref (g.2.1 71)]) (As := [.int x2, .int x3]) hS9 (c_M_isFar l g (mkS σ [(3238, v_areKindsFound), (3214, v_far), (3215, v_heaps), (3212, v_isMeasured), (3203, v_posts)] [] [(70, v_newRoad), (71, v_numberOf), (54, v_road), (59, v_wayOf)] []) x2 x3 z5 hc6) rfl (cwV 2 hts (gz_V mw_5_161 mw_5_163 ms_4_3 mw_1_11 mw_5_164) rfl rfl rfl hdV_X9_isFar ⟨Nat.le_of_ble_eq_true rfl, Nat.le_of_ble_eq_true rfl⟩) hK hG (ga_50 g _) rfl rfl rfl hl.1 rfl (Nat.le_of_ble_eq_true rfl) dX9_fold_44 (fun H locs hG => ?_)
      refine W.eq (g2 := F0 m 47 ls [.int z5, .int x2, .ref (g.2.1 71)]) rfl ?_
      refine lv_if_eq (tgt := 59) hx hb dX9_fold_47 (by decide) (fun c7 => ?_) (fun c7 => ?_)
      · have h := ite_t c7 h
        refine lv_aload_n hx hb dX9_fold_59 rfl (lv_at hl 0 rfl) ?_
        refine gx_get (v := .ref (g.2.1 71)) (C := RX9) (T := TX9) (N := 44) hx hb hts mc_X9 hown hK hG (ga_50 g _) rfl 30 (by decide) hw0 rfl rfl dX9_fold_60 ?_
        refine lv_iload_n hx hb dX9_fold_63 rfl (lv_at hl 2 rfl) ?_
        obtain ⟨hg8, h⟩ := gd_some h
        refine gx_iald (f := v_numberOf) hx hb hK hG (ga_71 g _) hg8 dX9_fold_64 ?_
        exact n65 k31 hk31 x1 x2 x3 x2 (v_numberOf (x2.toNatClampNeg)) v_areKindsFound v_far v_heaps v_isMeasured v_posts v_newRoad v_numberOf v_road v_wayOf _ _ _ (lv_sub hl [0, 1, 2, 3] rfl) hG h
      · have h := ite_f c7 h
        refine lv_aload_n hx hb dX9_fold_50 rfl (lv_at hl 0 rfl) ?_
        refine gx_get (v := .ref (g.2.1 71)) (C := RX9) (T := TX9) (N := 44) hx hb hts mc_X9 hown hK hG (ga_50 g _) rfl 30 (by decide) hw0 rfl rfl dX9_fold_51 ?_
        refine lv_iload_n hx hb dX9_fold_54 rfl (lv_at hl 3 rfl) ?_
        obtain ⟨hg9, h⟩ := gd_some h
        refine gx_iald (f := v_numberOf) hx hb hK hG (ga_71 g _) hg9 dX9_fold_55 ?_
        refine lv_goto (tgt := 65) hx hb dX9_fold_56 (by decide) ?_
        exact n65 k31 hk31 x1 x2 x3 x2 (v_numberOf (x3.toNatClampNeg)) v_areKindsFound v_far v_heaps v_isMeasured v_posts v_newRoad v_numberOf v_road v_wayOf _ _ _ (lv_sub hl [0, 1, 2, 3] rfl) hG h
  have l31 : ∀ (k14 : Int32 → Int32 → Int32 → Int32 → Int32 → Int32 → Int32 → (Nat → Int32) → (Nat → Int32) → (Nat → Int32) → (Nat → Int32) → Option (Int32 × Int32 × Int32 × Int32 × Int32 × Int32 × (Nat → Int32) × (Nat → Int32) × (Nat → Int32) × (Nat → Int32))) (hk14 : ∀ (x1 : Int32) (x2 : Int32) (v_areKindsFound : Int32) (v_far : Int32) (v_heaps : Int32) (v_isMeasured : Int32) (v_posts : Int32) (v_newRoad : Nat → Int32) (v_numberOf : Nat → Int32) (v_road : Nat → Int32) (v_wayOf : Nat → Int32) (H : Heap) (locs : List Loc) (ls : Array Slot), lv_has ls 4 [(0, .ref (g.2.1 50)), (1, .int x1), (2, .int x2)] → GW g s (mkS σ [(3238, v_areKindsFound), (3214, v_far), (3215, v_heaps), (3212, v_isMeasured), (3203, v_posts)] [] [(70, v_newRoad), (71, v_numberOf), (54, v_road), (59, v_wayOf)] []) H locs → k14 x1 x2 v_areKindsFound v_far v_heaps v_isMeasured v_posts v_newRoad v_numberOf v_road v_wayOf = some (r, w_areKindsFound, w_far, w_heaps, w_isMeasured, w_posts, w_newRoad, w_numberOf, w_road, w_wayOf) → Wg p l e 4 91 s m args below meth c g (some (.int r)) (mkS σ [(3238, w_areKindsFound), (3214, w_far), (3215, w_heaps), (3212, w_isMeasured), (3203, w_posts)] [] [(70, w_newRoad), (71, w_numberOf), (54, w_road), (59, w_wayOf)] []) H locs (F0 m 14 ls [])) (F : Nat) (x1 : Int32) (x2 : Int32) (x3 : Int32) (v_areKindsFound : Int32) (v_far : Int32) (v_heaps : Int32) (v_isMeasured : Int32) (v_posts : Int32) (v_newRoad : Nat → Int32) (v_numberOf : Nat → Int32) (v_road : Nat → Int32) (v_wayOf : Nat → Int32) (H : Heap) (locs : List Loc) (ls : Array Slot), lv_has ls 4 [(0, .ref (g.2.1 50)), (1, .int x1), (2, .int x2), (3, .int x3)] → GW g s (mkS σ [(3238, v_areKindsFound), (3214, v_far), (3215, v_heaps), (3212, v_isMeasured), (3203, v_posts)] [] [(70, v_newRoad), (71, v_numberOf), (54, v_road), (59, v_wayOf)] []) H locs → M_fold_l31 k14 F x1 x2 x3 v_areKindsFound v_far v_heaps v_isMeasured v_posts v_newRoad v_numberOf v_road v_wayOf = some (r, w_areKindsFound, w_far, w_heaps, w_isMeasured, w_posts, w_newRoad, w_numberOf, w_road, w_wayOf) → Wg p l e 4 91 s m args below meth c g (some (.int r)) (mkS σ [(3238, w_areKindsFound), (3214, w_far), (3215, w_heaps), (3212, w_isMeasured), (3203, w_posts)] [] [(70, w_newRoad), (71, w_numberOf), (54, w_road), (59, w_wayOf)] []) H locs (F0 m 31 ls []) := by
    intro k14 hk14 F
    induction F with
    | zero => intro x1 x2 x3 v_areKindsFound v_far v_heaps v_isMeasured v_posts v_newRoad v_numberOf v_road v_wayOf H locs ls hl hG h; exact no_some h
    | succ F ih => intro x1 x2 x3 v_areKindsFound v_far v_heaps v_isMeasured v_posts v_newRoad v_numberOf v_road v_wayOf H locs ls hl hG h; exact n31 k14 hk14 (fun x1 x2 x3 v_areKindsFound v_far v_heaps v_isMeasured v_posts v_newRoad v_numberOf v_road v_wayOf => M_fold_l31 k14 F x1 x2 x3 v_areKindsFound v_far v_heaps v_isMeasured v_posts v_newRoad v_numberOf v_road v_wayOf) ih x1 x2 x3 v_areKindsFound v_far v_heaps v_isMeasured v_posts v_newRoad v_numberOf v_road v_wayOf H locs ls hl hG h
  have n172 : ∀ (k113 : Int32 → Int32 → Int32 → Int32 → Int32 → Int32 → Int32 → Int32 → (Nat → Int32) → (Nat → Int32) → (Nat → Int32) → (Nat → Int32) → Option (Int32 × Int32 × Int32 × Int32 × Int32 × Int32 × (Nat → Int32) × (Nat → Int32) × (Nat → Int32) × (Nat → Int32))) (hk113 : ∀ (x1 : Int32) (x2 : Int32) (x3 : Int32) (v_areKindsFound : Int32) (v_far : Int32) (v_heaps : Int32) (v_isMeasured : Int32) (v_posts : Int32) (v_newRoad : Nat → Int32) (v_numberOf : Nat → Int32) (v_road : Nat → Int32) (v_wayOf : Nat → Int32) (H : Heap) (locs : List Loc) (ls : Array Slot), lv_has ls 4 [(0, .ref (g.2.1 50)), (1, .int x1), (2, .int x2), (3, .int x3)] → GW g s (mkS σ [(3238, v_areKindsFound), (3214, v_far), (3215, v_heaps), (3212, v_isMeasured), (3203, v_posts)] [] [(70, v_newRoad), (71, v_numberOf), (54, v_road), (59, v_wayOf)] []) H locs → k113 x1 x2 x3 v_areKindsFound v_far v_heaps v_isMeasured v_posts v_newRoad v_numberOf v_road v_wayOf = some (r, w_areKindsFound, w_far, w_heaps, w_isMeasured, w_posts, w_newRoad, w_numberOf, w_road, w_wayOf) → Wg p l e 4 91 s m args below meth c g (some (.int r)) (mkS σ [(3238, w_areKindsFound), (3214, w_far), (3215, w_heaps), (3212, w_isMeasured), (3203, w_posts)] [] [(70, w_newRoad), (71, w_numberOf), (54, w_road), (59, w_wayOf)] []) H locs (F0 m 113 ls [])) (x1 : Int32) (x2 : Int32) (x3 : Int32) (v_areKindsFound : Int32) (v_far : Int32) (v_heaps : Int32) (v_isMeasured : Int32) (v_posts : Int32) (v_newRoad : Nat → Int32) (v_numberOf : Nat → Int32) (v_road : Nat → Int32) (v_wayOf : Nat → Int32) (H : Heap) (locs : List Loc) (ls : Array Slot), lv_has ls 4 [(0, .ref (g.2.1 50)), (1, .int x1), (2, .int x2), (3, .int x3)] → GW g s (mkS σ [(3238, v_areKindsFound), (3214, v_far), (3215, v_heaps), (3212, v_isMeasured), (3203, v_posts)] [] [(70, v_newRoad), (71, v_numberOf), (54, v_road), (59, v_wayOf)] []) H locs → M_fold_n172 k113 x1 x2 x3 v_areKindsFound v_far v_heaps v_isMeasured v_posts v_newRoad v_numberOf v_road v_wayOf = some (r, w_areKindsFound, w_far, w_heaps, w_isMeasured, w_posts, w_newRoad, w_numberOf, w_road, w_wayOf) → Wg p l e 4 91 s m args below meth c g (some (.int r)) (mkS σ [(3238, w_areKindsFound), (3214, w_far), (3215, w_heaps), (3212, w_isMeasured), (3203, w_posts)] [] [(70, w_newRoad), (71, w_numberOf), (54, w_road), (59, w_wayOf)] []) H locs (F0 m 172 ls []) := by
    intro k113 hk113 x1 x2 x3 v_areKindsFound v_far v_heaps v_isMeasured v_posts v_newRoad v_numberOf v_road v_wayOf H locs ls hl hG h
    unfold M_fold_n172 at h
    refine lv_iinc (v := (x3 + (1 : Int32))) (lv' := [(3, .int (x3 + (1 : Int32))), (0, .ref (g.2.1 50)), (1, .int x1), (2, .int x2)]) hx hb dX9_fold_172 hl (k := 3) rfl (congrArg (fun z => x3 + z) (by decide)) (Nat.le_of_ble_eq_true rfl) rfl (fun ls hl => ?_)
    refine lv_goto (tgt := 113) hx hb dX9_fold_175 (by decide) ?_
    exact hk113 x1 x2 (x3 + (1 : Int32)) v_areKindsFound v_far v_heaps v_isMeasured v_posts v_newRoad v_numberOf v_road v_wayOf _ _ _ (lv_sub hl [1, 2, 3, 0] rfl) hG h
  have n178 : ∀ (k103 : Int32 → Int32 → Int32 → Int32 → Int32 → Int32 → Int32 → (Nat → Int32) → (Nat → Int32) → (Nat → Int32) → (Nat → Int32) → Option (Int32 × Int32 × Int32 × Int32 × Int32 × Int32 × (Nat → Int32) × (Nat → Int32) × (Nat → Int32) × (Nat → Int32))) (hk103 : ∀ (x1 : Int32) (x2 : Int32) (v_areKindsFound : Int32) (v_far : Int32) (v_heaps : Int32) (v_isMeasured : Int32) (v_posts : Int32) (v_newRoad : Nat → Int32) (v_numberOf : Nat → Int32) (v_road : Nat → Int32) (v_wayOf : Nat → Int32) (H : Heap) (locs : List Loc) (ls : Array Slot), lv_has ls 4 [(0, .ref (g.2.1 50)), (1, .int x1), (2, .int x2)] → GW g s (mkS σ [(3238, v_areKindsFound), (3214, v_far), (3215, v_heaps), (3212, v_isMeasured), (3203, v_posts)] [] [(70, v_newRoad), (71, v_numberOf), (54, v_road), (59, v_wayOf)] []) H locs → k103 x1 x2 v_areKindsFound v_far v_heaps v_isMeasured v_posts v_newRoad v_numberOf v_road v_wayOf = some (r, w_areKindsFound, w_far, w_heaps, w_isMeasured, w_posts, w_newRoad, w_numberOf, w_road, w_wayOf) → Wg p l e 4 91 s m args below meth c g (some (.int r)) (mkS σ [(3238, w_areKindsFound), (3214, w_far), (3215, w_heaps), (3212, w_isMeasured), (3203, w_posts)] [] [(70, w_newRoad), (71, w_numberOf), (54, w_road), (59, w_wayOf)] []) H locs (F0 m 103 ls [])) (x1 : Int32) (x2 : Int32) (v_areKindsFound : Int32) (v_far : Int32) (v_heaps : Int32) (v_isMeasured : Int32) (v_posts : Int32) (v_newRoad : Nat → Int32) (v_numberOf : Nat → Int32) (v_road : Nat → Int32) (v_wayOf : Nat → Int32) (H : Heap) (locs : List Loc) (ls : Array Slot), lv_has ls 4 [(0, .ref (g.2.1 50)), (1, .int x1), (2, .int x2)] → GW g s (mkS σ [(3238, v_areKindsFound), (3214, v_far), (3215, v_heaps), (3212, v_isMeasured), (3203, v_posts)] [] [(70, v_newRoad), (71, v_numberOf), (54, v_road), (59, v_wayOf)] []) H locs → M_fold_n178 k103 x1 x2 v_areKindsFound v_far v_heaps v_isMeasured v_posts v_newRoad v_numberOf v_road v_wayOf = some (r, w_areKindsFound, w_far, w_heaps, w_isMeasured, w_posts, w_newRoad, w_numberOf, w_road, w_wayOf) → Wg p l e 4 91 s m args below meth c g (some (.int r)) (mkS σ [(3238, w_areKindsFound), (3214, w_far), (3215, w_heaps), (3212, w_isMeasured), (3203, w_posts)] [] [(70, w_newRoad), (71, w_numberOf), (54, w_road), (59, w_wayOf)] []) H locs (F0 m 178 ls []) := by
    intro k103 hk103 x1 x2 v_areKindsFound v_far v_heaps v_isMeasured v_posts v_newRoad v_numberOf v_road v_wayOf H locs ls hl hG h
    unfold M_fold_n178 at h
    refine lv_iinc (v := (x2 + (1 : Int32))) (lv' := [(2, .int (x2 + (1 : Int32))), (0, .ref (g.2.1 50)), (1, .int x1)]) hx hb dX9_fold_178 hl (k := 2) rfl (congrArg (fun z => x2 + z) (by decide)) (Nat.le_of_ble_eq_true rfl) rfl (fun ls hl => ?_)
    refine lv_goto (tgt := 103) hx hb dX9_fold_181 (by decide) ?_
    exact hk103 x1 (x2 + (1 : Int32)) v_areKindsFound v_far v_heaps v_isMeasured v_posts v_newRoad v_numberOf v_road v_wayOf _ _ _ (lv_sub hl [1, 2, 0] rfl) hG h
  have n113 : ∀ (k103 : Int32 → Int32 → Int32 → Int32 → Int32 → Int32 → Int32 → (Nat → Int32) → (Nat → Int32) → (Nat → Int32) → (Nat → Int32) → Option (Int32 × Int32 × Int32 × Int32 × Int32 × Int32 × (Nat → Int32) × (Nat → Int32) × (Nat → Int32) × (Nat → Int32))) (hk103 : ∀ (x1 : Int32) (x2 : Int32) (v_areKindsFound : Int32) (v_far : Int32) (v_heaps : Int32) (v_isMeasured : Int32) (v_posts : Int32) (v_newRoad : Nat → Int32) (v_numberOf : Nat → Int32) (v_road : Nat → Int32) (v_wayOf : Nat → Int32) (H : Heap) (locs : List Loc) (ls : Array Slot), lv_has ls 4 [(0, .ref (g.2.1 50)), (1, .int x1), (2, .int x2)] → GW g s (mkS σ [(3238, v_areKindsFound), (3214, v_far), (3215, v_heaps), (3212, v_isMeasured), (3203, v_posts)] [] [(70, v_newRoad), (71, v_numberOf), (54, v_road), (59, v_wayOf)] []) H locs → k103 x1 x2 v_areKindsFound v_far v_heaps v_isMeasured v_posts v_newRoad v_numberOf v_road v_wayOf = some (r, w_areKindsFound, w_far, w_heaps, w_isMeasured, w_posts, w_newRoad, w_numberOf, w_road, w_wayOf) → Wg p l e 4 91 s m args below meth c g (some (.int r)) (mkS σ [(3238, w_areKindsFound), (3214, w_far), (3215, w_heaps), (3212, w_isMeasured), (3203, w_posts)] [] [(70, w_newRoad), (71, w_numberOf), (54, w_road), (59, w_wayOf)] []) H locs (F0 m 103 ls [])) (k113 : Int32 → Int32 → Int32 → Int32 → Int32 → Int32 → Int32 → Int32 → (Nat → Int32) → (Nat → Int32) → (Nat → Int32) → (Nat → Int32) → Option (Int32 × Int32 × Int32 × Int32 × Int32 × Int32 × (Nat → Int32) × (Nat → Int32) × (Nat → Int32) × (Nat → Int32))) (hk113 : ∀ (x1 : Int32) (x2 : Int32) (x3 : Int32) (v_areKindsFound : Int32) (v_far : Int32) (v_heaps : Int32) (v_isMeasured : Int32) (v_posts : Int32) (v_newRoad : Nat → Int32) (v_numberOf : Nat → Int32) (v_road : Nat → Int32) (v_wayOf : Nat → Int32) (H : Heap) (locs : List Loc) (ls : Array Slot), lv_has ls 4 [(0, .ref (g.2.1 50)), (1, .int x1), (2, .int x2), (3, .int x3)] → GW g s (mkS σ [(3238, v_areKindsFound), (3214, v_far), (3215, v_heaps), (3212, v_isMeasured), (3203, v_posts)] [] [(70, v_newRoad), (71, v_numberOf), (54, v_road), (59, v_wayOf)] []) H locs → k113 x1 x2 x3 v_areKindsFound v_far v_heaps v_isMeasured v_posts v_newRoad v_numberOf v_road v_wayOf = some (r, w_areKindsFound, w_far, w_heaps, w_isMeasured, w_posts, w_newRoad, w_numberOf, w_road, w_wayOf) → Wg p l e 4 91 s m args below meth c g (some (.int r)) (mkS σ [(3238, w_areKindsFound), (3214, w_far), (3215, w_heaps), (3212, w_isMeasured), (3203, w_posts)] [] [(70, w_newRoad), (71, w_numberOf), (54, w_road), (59, w_wayOf)] []) H locs (F0 m 113 ls [])) (x1 : Int32) (x2 : Int32) (x3 : Int32) (v_areKindsFound : Int32) (v_far : Int32) (v_heaps : Int32) (v_isMeasured : Int32) (v_posts : Int32) (v_newRoad : Nat → Int32) (v_numberOf : Nat → Int32) (v_road : Nat → Int32) (v_wayOf : Nat → Int32) (H : Heap) (locs : List Loc) (ls : Array Slot), lv_has ls 4 [(0, .ref (g.2.1 50)), (1, .int x1), (2, .int x2), (3, .int x3)] → GW g s (mkS σ [(3238, v_areKindsFound), (3214, v_far), (3215, v_heaps), (3212, v_isMeasured), (3203, v_posts)] [] [(70, v_newRoad), (71, v_numberOf), (54, v_road), (59, v_wayOf)] []) H locs → M_fold_n113 k103 k113 x1 x2 x3 v_areKindsFound v_far v_heaps v_isMeasured v_posts v_newRoad v_numberOf v_road v_wayOf = some (r, w_areKindsFound, w_far, w_heaps, w_isMeasured, w_posts, w_newRoad, w_numberOf, w_road, w_wayOf) → Wg p l e 4 91 s m args below meth c g (some (.int r)) (mkS σ [(3238, w_areKindsFound), (3214, w_far), (3215, w_heaps), (3212, w_isMeasured), (3203, w_posts)] [] [(70, w_newRoad), (71, w_numberOf), (54, w_road), (59, w_wayOf)] []) H locs (F0 m 113 ls []) := by
    intro k103 hk103 k113 hk113 x1 x2 x3 v_areKindsFound v_far v_heaps v_isMeasured v_posts v_newRoad v_numberOf v_road v_wayOf H locs ls hl hG h
    unfold M_fold_n113 at h
    refine lv_iload_n hx hb dX9_fold_113 rfl (lv_at hl 3 rfl) ?_
    refine lv_aload_n hx hb dX9_fold_114 rfl (lv_at hl 0 rfl) ?_
    refine gx_get (v := .int v_posts) (C := RX9) (T := TX9) (N := 44) hx hb hts mc_X9 hown hK hG (ga_50 g _) rfl 3 (by decide) hw1 rfl rfl dX9_fold_115 ?_
    refine lv_icmp_ge (tgt := 178) hx hb dX9_fold_118 (by decide) (fun c10 => ?_) (fun c10 => ?_)
    · have h := ite_t c10 h
      exact n178 k103 hk103 x1 x2 v_areKindsFound v_far v_heaps v_isMeasured v_posts v_newRoad v_numberOf v_road v_wayOf _ _ _ (lv_sub hl [0, 1, 2] rfl) hG h
    · have h := ite_f c10 h
      refine lv_aload_n hx hb dX9_fold_121 rfl (lv_at hl 0 rfl) ?_
      refine gx_get (v := .ref (g.2.1 54)) (C := RX9) (T := TX9) (N := 44) hx hb hts mc_X9 hown hK hG (ga_50 g _) rfl 4 (by decide) hw2 rfl rfl dX9_fold_122 ?_
      refine lv_bipush (v := (32 : Int32)) hx hb dX9_fold_125 (by decide) ?_
      refine lv_iload_n hx hb dX9_fold_127 rfl (lv_at hl 2 rfl) ?_
      refine lv_imul hx hb dX9_fold_128 ?_
      refine lv_iload_n hx hb dX9_fold_129 rfl (lv_at hl 3 rfl) ?_
      refine lv_iadd hx hb dX9_fold_130 ?_
      obtain ⟨hg11, h⟩ := gd_some h
      refine gx_zald (f := v_road) hx hb hK hG (ga_54 g _) hg11 dX9_fold_131 ?_
      refine lv_if_eq (tgt := 172) hx hb dX9_fold_132 (by decide) (fun c12 => ?_) (fun c12 => ?_)
      · have h := ite_t c12 h
        exact n172 k113 hk113 x1 x2 x3 v_areKindsFound v_far v_heaps v_isMeasured v_posts v_newRoad v_numberOf v_road v_wayOf _ _ _ (lv_sub hl [0, 1, 2, 3] rfl) hG h
      · have h := ite_f c12 h
        refine lv_aload_n hx hb dX9_fold_135 rfl (lv_at hl 0 rfl) ?_
        refine gx_get (v := .ref (g.2.1 71)) (C := RX9) (T := TX9) (N := 44) hx hb hts mc_X9 hown hK hG (ga_50 g _) rfl 30 (by decide) hw0 rfl rfl dX9_fold_136 ?_
        refine lv_iload_n hx hb dX9_fold_139 rfl (lv_at hl 2 rfl) ?_
        obtain ⟨hg13, h⟩ := gd_some h
        refine gx_iald (f := v_numberOf) hx hb hK hG (ga_71 g _) hg13 dX9_fold_140 ?_
        refine lv_aload_n hx hb dX9_fold_141 rfl (lv_at hl 0 rfl) ?_
        refine gx_get (v := .ref (g.2.1 71)) (C := RX9) (T := TX9) (N := 44) hx hb hts mc_X9 hown hK hG (ga_50 g _) rfl 30 (by decide) hw0 rfl rfl dX9_fold_142 ?_
        refine lv_iload_n hx hb dX9_fold_145 rfl (lv_at hl 3 rfl) ?_
        obtain ⟨hg14, h⟩ := gd_some h
        refine gx_iald (f := v_numberOf) hx hb hK hG (ga_71 g _) hg14 dX9_fold_146 ?_
        refine lv_icmp_eq (tgt := 172) hx hb dX9_fold_147 (by decide) (fun c15 => ?_) (fun c15 => ?_)
        · have h := ite_t c15 h
          exact n172 k113 hk113 x1 x2 x3 v_areKindsFound v_far v_heaps v_isMeasured v_posts v_newRoad v_numberOf v_road v_wayOf _ _ _ (lv_sub hl [0, 1, 2, 3] rfl) hG h
        · have h := ite_f c15 h
          refine lv_aload_n hx hb dX9_fold_150 rfl (lv_at hl 0 rfl) ?_
          refine gx_get (v := .ref (g.2.1 70)) (C := RX9) (T := TX9) (N := 44) hx hb hts mc_X9 hown hK hG (ga_50 g _) rfl 29 (by decide) hw3 rfl rfl dX9_fold_151 ?_
          refine lv_bipush (v := (32 : Int32)) hx hb dX9_fold_154 (by decide) ?_
          refine lv_aload_n hx hb dX9_fold_156 rfl (lv_at hl 0 rfl) ?_
          refine gx_get (v := .ref (g.2.1 71)) (C := RX9) (T := TX9) (N := 44) hx hb hts mc_X9 hown hK hG (ga_50 g _) rfl 30 (by decide) hw0 rfl rfl dX9_fold_157 ?_
          refine lv_iload_n hx hb dX9_fold_160 rfl (lv_at hl 2 rfl) ?_
          refine gx_iald (f := v_numberOf) hx hb hK hG (ga_71 g _) hg13 dX9_fold_161 ?_
          refine lv_imul hx hb dX9_fold_162 ?_
          refine lv_aload_n hx hb dX9_fold_163 rfl (lv_at hl 0 rfl) ?_
          refine gx_get (v := .ref (g.2.1 71)) (C := RX9) (T := TX9) (N := 44) hx hb hts mc_X9 hown hK hG (ga_50 g _) rfl 30 (by decide) hw0 rfl rfl dX9_fold_164 ?_
          refine lv_iload_n hx hb dX9_fold_167 rfl (lv_at hl 3 rfl) ?_
          refine gx_iald (f := v_numberOf) hx hb hK hG (ga_71 g _) hg14 dX9_fold_168 ?_
          refine lv_iadd hx hb dX9_fold_169 ?_
          refine lv_iconst (v := (1 : Int32)) hx hb dX9_fold_170 (by decide) ?_
          obtain ⟨hg16, h⟩ := gd_some h
          refine gx_zast (σ' := (mkS σ [(3238, v_areKindsFound), (3214, v_far), (3215, v_heaps), (3212, v_isMeasured), (3203, v_posts)] [] [(70, (upd v_newRoad ((((32 : Int32) * (v_numberOf (x2.toNatClampNeg))) + (v_numberOf (x3.toNatClampNeg))).toNatClampNeg) (1 : Int32))), (71, v_numberOf), (54, v_road), (59, v_wayOf)] [])) (f := v_newRoad) hx hb hK hG (ga_70 g _) hg16 (by decide) ((gs_70 g _ _).trans (congrArg (g_cells g) (mk_c 0 rfl rfl))) dX9_fold_171 (fun H locs hG => ?_)
          exact n172 k113 hk113 x1 x2 x3 v_areKindsFound v_far v_heaps v_isMeasured v_posts (upd v_newRoad ((((32 : Int32) * (v_numberOf (x2.toNatClampNeg))) + (v_numberOf (x3.toNatClampNeg))).toNatClampNeg) (1 : Int32)) v_numberOf v_road v_wayOf _ _ _ (lv_sub hl [0, 1, 2, 3] rfl) hG h
  have l113 : ∀ (k103 : Int32 → Int32 → Int32 → Int32 → Int32 → Int32 → Int32 → (Nat → Int32) → (Nat → Int32) → (Nat → Int32) → (Nat → Int32) → Option (Int32 × Int32 × Int32 × Int32 × Int32 × Int32 × (Nat → Int32) × (Nat → Int32) × (Nat → Int32) × (Nat → Int32))) (hk103 : ∀ (x1 : Int32) (x2 : Int32) (v_areKindsFound : Int32) (v_far : Int32) (v_heaps : Int32) (v_isMeasured : Int32) (v_posts : Int32) (v_newRoad : Nat → Int32) (v_numberOf : Nat → Int32) (v_road : Nat → Int32) (v_wayOf : Nat → Int32) (H : Heap) (locs : List Loc) (ls : Array Slot), lv_has ls 4 [(0, .ref (g.2.1 50)), (1, .int x1), (2, .int x2)] → GW g s (mkS σ [(3238, v_areKindsFound), (3214, v_far), (3215, v_heaps), (3212, v_isMeasured), (3203, v_posts)] [] [(70, v_newRoad), (71, v_numberOf), (54, v_road), (59, v_wayOf)] []) H locs → k103 x1 x2 v_areKindsFound v_far v_heaps v_isMeasured v_posts v_newRoad v_numberOf v_road v_wayOf = some (r, w_areKindsFound, w_far, w_heaps, w_isMeasured, w_posts, w_newRoad, w_numberOf, w_road, w_wayOf) → Wg p l e 4 91 s m args below meth c g (some (.int r)) (mkS σ [(3238, w_areKindsFound), (3214, w_far), (3215, w_heaps), (3212, w_isMeasured), (3203, w_posts)] [] [(70, w_newRoad), (71, w_numberOf), (54, w_road), (59, w_wayOf)] []) H locs (F0 m 103 ls [])) (F : Nat) (x1 : Int32) (x2 : Int32) (x3 : Int32) (v_areKindsFound : Int32) (v_far : Int32) (v_heaps : Int32) (v_isMeasured : Int32) (v_posts : Int32) (v_newRoad : Nat → Int32) (v_numberOf : Nat → Int32) (v_road : Nat → Int32) (v_wayOf : Nat → Int32) (H : Heap) (locs : List Loc) (ls : Array Slot), lv_has ls 4 [(0, .ref (g.2.1 50)), (1, .int x1), (2, .int x2), (3, .int x3)] → GW g s (mkS σ [(3238, v_areKindsFound), (3214, v_far), (3215, v_heaps), (3212, v_isMeasured), (3203, v_posts)] [] [(70, v_newRoad), (71, v_numberOf), (54, v_road), (59, v_wayOf)] []) H locs → M_fold_l113 k103 F x1 x2 x3 v_areKindsFound v_far v_heaps v_isMeasured v_posts v_newRoad v_numberOf v_road v_wayOf = some (r, w_areKindsFound, w_far, w_heaps, w_isMeasured, w_posts, w_newRoad, w_numberOf, w_road, w_wayOf) → Wg p l e 4 91 s m args below meth c g (some (.int r)) (mkS σ [(3238, w_areKindsFound), (3214, w_far), (3215, w_heaps), (3212, w_isMeasured), (3203, w_posts)] [] [(70, w_newRoad), (71, w_numberOf), (54, w_road), (59, w_wayOf)] []) H locs (F0 m 113 ls []) := by
    intro k103 hk103 F
    induction F with
    | zero => intro x1 x2 x3 v_areKindsFound v_far v_heaps v_isMeasured v_posts v_newRoad v_numberOf v_road v_wayOf H locs ls hl hG h; exact no_some h
    | succ F ih => intro x1 x2 x3 v_areKindsFound v_far v_heaps v_isMeasured v_posts v_newRoad v_numberOf v_road v_wayOf H locs ls hl hG h; exact n113 k103 hk103 (fun x1 x2 x3 v_areKindsFound v_far v_heaps v_isMeasured v_posts v_newRoad v_numberOf v_road v_wayOf => M_fold_l113 k103 F x1 x2 x3 v_areKindsFound v_far v_heaps v_isMeasured v_posts v_newRoad v_numberOf v_road v_wayOf) ih x1 x2 x3 v_areKindsFound v_far v_heaps v_isMeasured v_posts v_newRoad v_numberOf v_road v_wayOf H locs ls hl hG h
  have n184 : ∀ (x1 : Int32) (v_areKindsFound : Int32) (v_far : Int32) (v_heaps : Int32) (v_isMeasured : Int32) (v_posts : Int32) (v_newRoad : Nat → Int32) (v_numberOf : Nat → Int32) (v_road : Nat → Int32) (v_wayOf : Nat → Int32) (H : Heap) (locs : List Loc) (ls : Array Slot), lv_has ls 4 [(0, .ref (g.2.1 50)), (1, .int x1)] → GW g s (mkS σ [(3238, v_areKindsFound), (3214, v_far), (3215, v_heaps), (3212, v_isMeasured), (3203, v_posts)] [] [(70, v_newRoad), (71, v_numberOf), (54, v_road), (59, v_wayOf)] []) H locs → M_fold_n184 x1 v_areKindsFound v_far v_heaps v_isMeasured v_posts v_newRoad v_numberOf v_road v_wayOf = some (r, w_areKindsFound, w_far, w_heaps, w_isMeasured, w_posts, w_newRoad, w_numberOf, w_road, w_wayOf) → Wg p l e 4 91 s m args below meth c g (some (.int r)) (mkS σ [(3238, w_areKindsFound), (3214, w_far), (3215, w_heaps), (3212, w_isMeasured), (3203, w_posts)] [] [(70, w_newRoad), (71, w_numberOf), (54, w_road), (59, w_wayOf)] []) H locs (F0 m 184 ls []) := by
    intro x1 v_areKindsFound v_far v_heaps v_isMeasured v_posts v_newRoad v_numberOf v_road v_wayOf H locs ls hl hG h
    unfold M_fold_n184 at h
    refine lv_aload_n hx hb dX9_fold_184 rfl (lv_at hl 0 rfl) ?_
    refine lv_iload_n hx hb dX9_fold_185 rfl (lv_at hl 1 rfl) ?_
    obtain ⟨z17, hc18, h⟩ := bnd_some h
    refine gx_cV (σ' := (mkS σ [(3238, z17.1), (3214, v_far), (3215, v_heaps), (3212, z17.2.1), (3203, z17.2.2.1)] [] [(70, v_newRoad), (71, v_numberOf), (54, z17.2.2.2), (59, v_wayOf)] [])) (r := none) (rest := []) (As := [.int x1]) hS9 (c_M_become l g (mkS σ [(3238, v_areKindsFound), (3214, v_far), (3215, v_heaps), (3212, v_isMeasured), (3203, v_posts)] [] [(70, v_newRoad), (71, v_numberOf), (54, v_road), (59, v_wayOf)] []) x1 z17.1 z17.2.1 z17.2.2.1 z17.2.2.2 hc18) (mk_mk rfl rfl rfl rfl) (cwV 1 hts (gz_V mw_6_42 mw_6_44 ms_5_1 mw_1_11 mw_6_45) rfl rfl rfl hdV_X9_become ⟨Nat.le_of_ble_eq_true rfl, Nat.le_of_ble_eq_true rfl⟩) hK hG (ga_50 g _) rfl rfl rfl hl.1 rfl (Nat.le_of_ble_eq_true rfl) dX9_fold_186 (fun H locs hG => ?_)
    refine W.eq (g2 := F0 m 189 ls []) rfl ?_
    refine lv_iload_n hx hb dX9_fold_189 rfl (lv_at hl 1 rfl) ?_
    cases h
    exact gx_iret hx hb hr hlocks hG dX9_fold_190
  have n103 : ∀ (k103 : Int32 → Int32 → Int32 → Int32 → Int32 → Int32 → Int32 → (Nat → Int32) → (Nat → Int32) → (Nat → Int32) → (Nat → Int32) → Option (Int32 × Int32 × Int32 × Int32 × Int32 × Int32 × (Nat → Int32) × (Nat → Int32) × (Nat → Int32) × (Nat → Int32))) (hk103 : ∀ (x1 : Int32) (x2 : Int32) (v_areKindsFound : Int32) (v_far : Int32) (v_heaps : Int32) (v_isMeasured : Int32) (v_posts : Int32) (v_newRoad : Nat → Int32) (v_numberOf : Nat → Int32) (v_road : Nat → Int32) (v_wayOf : Nat → Int32) (H : Heap) (locs : List Loc) (ls : Array Slot), lv_has ls 4 [(0, .ref (g.2.1 50)), (1, .int x1), (2, .int x2)] → GW g s (mkS σ [(3238, v_areKindsFound), (3214, v_far), (3215, v_heaps), (3212, v_isMeasured), (3203, v_posts)] [] [(70, v_newRoad), (71, v_numberOf), (54, v_road), (59, v_wayOf)] []) H locs → k103 x1 x2 v_areKindsFound v_far v_heaps v_isMeasured v_posts v_newRoad v_numberOf v_road v_wayOf = some (r, w_areKindsFound, w_far, w_heaps, w_isMeasured, w_posts, w_newRoad, w_numberOf, w_road, w_wayOf) → Wg p l e 4 91 s m args below meth c g (some (.int r)) (mkS σ [(3238, w_areKindsFound), (3214, w_far), (3215, w_heaps), (3212, w_isMeasured), (3203, w_posts)] [] [(70, w_newRoad), (71, w_numberOf), (54, w_road), (59, w_wayOf)] []) H locs (F0 m 103 ls [])) (x1 : Int32) (x2 : Int32) (v_areKindsFound : Int32) (v_far : Int32) (v_heaps : Int32) (v_isMeasured : Int32) (v_posts : Int32) (v_newRoad : Nat → Int32) (v_numberOf : Nat → Int32) (v_road : Nat → Int32) (v_wayOf : Nat → Int32) (H : Heap) (locs : List Loc) (ls : Array Slot), lv_has ls 4 [(0, .ref (g.2.1 50)), (1, .int x1), (2, .int x2)] → GW g s (mkS σ [(3238, v_areKindsFound), (3214, v_far), (3215, v_heaps), (3212, v_isMeasured), (3203, v_posts)] [] [(70, v_newRoad), (71, v_numberOf), (54, v_road), (59, v_wayOf)] []) H locs → M_fold_n103 k103 x1 x2 v_areKindsFound v_far v_heaps v_isMeasured v_posts v_newRoad v_numberOf v_road v_wayOf = some (r, w_areKindsFound, w_far, w_heaps, w_isMeasured, w_posts, w_newRoad, w_numberOf, w_road, w_wayOf) → Wg p l e 4 91 s m args below meth c g (some (.int r)) (mkS σ [(3238, w_areKindsFound), (3214, w_far), (3215, w_heaps), (3212, w_isMeasured), (3203, w_posts)] [] [(70, w_newRoad), (71, w_numberOf), (54, w_road), (59, w_wayOf)] []) H locs (F0 m 103 ls []) := by
    intro k103 hk103 x1 x2 v_areKindsFound v_far v_heaps v_isMeasured v_posts v_newRoad v_numberOf v_road v_wayOf H locs ls hl hG h
    unfold M_fold_n103 at h
    refine lv_iload_n hx hb dX9_fold_103 rfl (lv_at hl 2 rfl) ?_
    refine lv_aload_n hx hb dX9_fold_104 rfl (lv_at hl 0 rfl) ?_
    refine gx_get (v := .int v_posts) (C := RX9) (T := TX9) (N := 44) hx hb hts mc_X9 hown hK hG (ga_50 g _) rfl 3 (by decide) hw1 rfl rfl dX9_fold_105 ?_
    refine lv_icmp_ge (tgt := 184) hx hb dX9_fold_108 (by decide) (fun c19 => ?_) (fun c19 => ?_)
    · have h := ite_t c19 h
      exact n184 x1 v_areKindsFound v_far v_heaps v_isMeasured v_posts v_newRoad v_numberOf v_road v_wayOf _ _ _ (lv_sub hl [0, 1] rfl) hG h
    · have h := ite_f c19 h
      refine lv_iconst (v := (0 : Int32)) hx hb dX9_fold_111 (by decide) ?_
      refine lv_istore_n (lv' := [(3, .int (0 : Int32)), (0, .ref (g.2.1 50)), (1, .int x1), (2, .int x2)]) hx hb dX9_fold_112 rfl hl (Nat.le_of_ble_eq_true rfl) rfl (fun ls hl => ?_)
      exact l113 k103 hk103 FUEL x1 x2 (0 : Int32) v_areKindsFound v_far v_heaps v_isMeasured v_posts v_newRoad v_numberOf v_road v_wayOf _ _ _ (lv_sub hl [1, 2, 3, 0] rfl) hG h
  have l103 : ∀  (F : Nat) (x1 : Int32) (x2 : Int32) (v_areKindsFound : Int32) (v_far : Int32) (v_heaps : Int32) (v_isMeasured : Int32) (v_posts : Int32) (v_newRoad : Nat → Int32) (v_numberOf : Nat → Int32) (v_road : Nat → Int32) (v_wayOf : Nat → Int32) (H : Heap) (locs : List Loc) (ls : Array Slot), lv_has ls 4 [(0, .ref (g.2.1 50)), (1, .int x1), (2, .int x2)] → GW g s (mkS σ [(3238, v_areKindsFound), (3214, v_far), (3215, v_heaps), (3212, v_isMeasured), (3203, v_posts)] [] [(70, v_newRoad), (71, v_numberOf), (54, v_road), (59, v_wayOf)] []) H locs → M_fold_l103 F x1 x2 v_areKindsFound v_far v_heaps v_isMeasured v_posts v_newRoad v_numberOf v_road v_wayOf = some (r, w_areKindsFound, w_far, w_heaps, w_isMeasured, w_posts, w_newRoad, w_numberOf, w_road, w_wayOf) → Wg p l e 4 91 s m args below meth c g (some (.int r)) (mkS σ [(3238, w_areKindsFound), (3214, w_far), (3215, w_heaps), (3212, w_isMeasured), (3203, w_posts)] [] [(70, w_newRoad), (71, w_numberOf), (54, w_road), (59, w_wayOf)] []) H locs (F0 m 103 ls []) := by
    intro F
    induction F with
    | zero => intro x1 x2 v_areKindsFound v_far v_heaps v_isMeasured v_posts v_newRoad v_numberOf v_road v_wayOf H locs ls hl hG h; exact no_some h
    | succ F ih => intro x1 x2 v_areKindsFound v_far v_heaps v_isMeasured v_posts v_newRoad v_numberOf v_road v_wayOf H locs ls hl hG h; exact n103 (fun x1 x2 v_areKindsFound v_far v_heaps v_isMeasured v_posts v_newRoad v_numberOf v_road v_wayOf => M_fold_l103 F x1 x2 v_areKindsFound v_far v_heaps v_isMeasured v_posts v_newRoad v_numberOf v_road v_wayOf) ih x1 x2 v_areKindsFound v_far v_heaps v_isMeasured v_posts v_newRoad v_numberOf v_road v_wayOf H locs ls hl hG h
  have n97 : ∀ (x1 : Int32) (v_areKindsFound : Int32) (v_far : Int32) (v_heaps : Int32) (v_isMeasured : Int32) (v_posts : Int32) (v_newRoad : Nat → Int32) (v_numberOf : Nat → Int32) (v_road : Nat → Int32) (v_wayOf : Nat → Int32) (H : Heap) (locs : List Loc) (ls : Array Slot), lv_has ls 4 [(0, .ref (g.2.1 50)), (1, .int x1)] → GW g s (mkS σ [(3238, v_areKindsFound), (3214, v_far), (3215, v_heaps), (3212, v_isMeasured), (3203, v_posts)] [] [(70, v_newRoad), (71, v_numberOf), (54, v_road), (59, v_wayOf)] []) H locs → M_fold_n97 x1 v_areKindsFound v_far v_heaps v_isMeasured v_posts v_newRoad v_numberOf v_road v_wayOf = some (r, w_areKindsFound, w_far, w_heaps, w_isMeasured, w_posts, w_newRoad, w_numberOf, w_road, w_wayOf) → Wg p l e 4 91 s m args below meth c g (some (.int r)) (mkS σ [(3238, w_areKindsFound), (3214, w_far), (3215, w_heaps), (3212, w_isMeasured), (3203, w_posts)] [] [(70, w_newRoad), (71, w_numberOf), (54, w_road), (59, w_wayOf)] []) H locs (F0 m 97 ls []) := by
    intro x1 v_areKindsFound v_far v_heaps v_isMeasured v_posts v_newRoad v_numberOf v_road v_wayOf H locs ls hl hG h
    unfold M_fold_n97 at h
    refine lv_aload_n hx hb dX9_fold_97 rfl (lv_at hl 0 rfl) ?_
    obtain ⟨z20, hc21, h⟩ := bnd_some h
    refine gx_cV (σ' := (mkS σ [(3238, v_areKindsFound), (3214, v_far), (3215, v_heaps), (3212, v_isMeasured), (3203, v_posts)] [] [(70, z20), (71, v_numberOf), (54, v_road), (59, v_wayOf)] [])) (r := none) (rest := []) (As := []) hS9 (c_M_clearNew l g (mkS σ [(3238, v_areKindsFound), (3214, v_far), (3215, v_heaps), (3212, v_isMeasured), (3203, v_posts)] [] [(70, v_newRoad), (71, v_numberOf), (54, v_road), (59, v_wayOf)] []) z20 hc21) (mk_mk rfl rfl rfl rfl) (cwV 0 hts (gz_V mw_6_38 mw_6_40 ms_5_0 mw_1_11 mw_6_41) rfl rfl rfl hdV_X9_clearNew ⟨Nat.le_of_ble_eq_true rfl, Nat.le_of_ble_eq_true rfl⟩) hK hG (ga_50 g _) rfl rfl rfl hl.1 rfl (Nat.le_of_ble_eq_true rfl) dX9_fold_98 (fun H locs hG => ?_)
    refine W.eq (g2 := F0 m 101 ls []) rfl ?_
    refine lv_iconst (v := (0 : Int32)) hx hb dX9_fold_101 (by decide) ?_
    refine lv_istore_n (lv' := [(2, .int (0 : Int32)), (0, .ref (g.2.1 50)), (1, .int x1)]) hx hb dX9_fold_102 rfl hl (Nat.le_of_ble_eq_true rfl) rfl (fun ls hl => ?_)
    exact l103 FUEL x1 (0 : Int32) v_areKindsFound v_far v_heaps v_isMeasured v_posts z20 v_numberOf v_road v_wayOf _ _ _ (lv_sub hl [1, 2, 0] rfl) hG h
  have n14 : ∀ (k14 : Int32 → Int32 → Int32 → Int32 → Int32 → Int32 → Int32 → (Nat → Int32) → (Nat → Int32) → (Nat → Int32) → (Nat → Int32) → Option (Int32 × Int32 × Int32 × Int32 × Int32 × Int32 × (Nat → Int32) × (Nat → Int32) × (Nat → Int32) × (Nat → Int32))) (hk14 : ∀ (x1 : Int32) (x2 : Int32) (v_areKindsFound : Int32) (v_far : Int32) (v_heaps : Int32) (v_isMeasured : Int32) (v_posts : Int32) (v_newRoad : Nat → Int32) (v_numberOf : Nat → Int32) (v_road : Nat → Int32) (v_wayOf : Nat → Int32) (H : Heap) (locs : List Loc) (ls : Array Slot), lv_has ls 4 [(0, .ref (g.2.1 50)), (1, .int x1), (2, .int x2)] → GW g s (mkS σ [(3238, v_areKindsFound), (3214, v_far), (3215, v_heaps), (3212, v_isMeasured), (3203, v_posts)] [] [(70, v_newRoad), (71, v_numberOf), (54, v_road), (59, v_wayOf)] []) H locs → k14 x1 x2 v_areKindsFound v_far v_heaps v_isMeasured v_posts v_newRoad v_numberOf v_road v_wayOf = some (r, w_areKindsFound, w_far, w_heaps, w_isMeasured, w_posts, w_newRoad, w_numberOf, w_road, w_wayOf) → Wg p l e 4 91 s m args below meth c g (some (.int r)) (mkS σ [(3238, w_areKindsFound), (3214, w_far), (3215, w_heaps), (3212, w_isMeasured), (3203, w_posts)] [] [(70, w_newRoad), (71, w_numberOf), (54, w_road), (59, w_wayOf)] []) H locs (F0 m 14 ls [])) (x1 : Int32) (x2 : Int32) (v_areKindsFound : Int32) (v_far : Int32) (v_heaps : Int32) (v_isMeasured : Int32) (v_posts : Int32) (v_newRoad : Nat → Int32) (v_numberOf : Nat → Int32) (v_road : Nat → Int32) (v_wayOf : Nat → Int32) (H : Heap) (locs : List Loc) (ls : Array Slot), lv_has ls 4 [(0, .ref (g.2.1 50)), (1, .int x1), (2, .int x2)] → GW g s (mkS σ [(3238, v_areKindsFound), (3214, v_far), (3215, v_heaps), (3212, v_isMeasured), (3203, v_posts)] [] [(70, v_newRoad), (71, v_numberOf), (54, v_road), (59, v_wayOf)] []) H locs → M_fold_n14 k14 x1 x2 v_areKindsFound v_far v_heaps v_isMeasured v_posts v_newRoad v_numberOf v_road v_wayOf = some (r, w_areKindsFound, w_far, w_heaps, w_isMeasured, w_posts, w_newRoad, w_numberOf, w_road, w_wayOf) → Wg p l e 4 91 s m args below meth c g (some (.int r)) (mkS σ [(3238, w_areKindsFound), (3214, w_far), (3215, w_heaps), (3212, w_isMeasured), (3203, w_posts)] [] [(70, w_newRoad), (71, w_numberOf), (54, w_road), (59, w_wayOf)] []) H locs (F0 m 14 ls []) := by
    intro k14 hk14 x1 x2 v_areKindsFound v_far v_heaps v_isMeasured v_posts v_newRoad v_numberOf v_road v_wayOf H locs ls hl hG h
    unfold M_fold_n14 at h
    refine lv_iload_n hx hb dX9_fold_14 rfl (lv_at hl 2 rfl) ?_
    refine lv_aload_n hx hb dX9_fold_15 rfl (lv_at hl 0 rfl) ?_
    refine gx_get (v := .int v_posts) (C := RX9) (T := TX9) (N := 44) hx hb hts mc_X9 hown hK hG (ga_50 g _) rfl 3 (by decide) hw1 rfl rfl dX9_fold_16 ?_
    refine lv_icmp_ge (tgt := 97) hx hb dX9_fold_19 (by decide) (fun c22 => ?_) (fun c22 => ?_)
    · have h := ite_t c22 h
      exact n97 x1 v_areKindsFound v_far v_heaps v_isMeasured v_posts v_newRoad v_numberOf v_road v_wayOf _ _ _ (lv_sub hl [0, 1] rfl) hG h
    · have h := ite_f c22 h
      refine lv_aload_n hx hb dX9_fold_22 rfl (lv_at hl 0 rfl) ?_
      refine gx_get (v := .ref (g.2.1 71)) (C := RX9) (T := TX9) (N := 44) hx hb hts mc_X9 hown hK hG (ga_50 g _) rfl 30 (by decide) hw0 rfl rfl dX9_fold_23 ?_
      refine lv_iload_n hx hb dX9_fold_26 rfl (lv_at hl 2 rfl) ?_
      refine lv_iconst (v := (-1 : Int32)) hx hb dX9_fold_27 (by decide) ?_
      obtain ⟨hg23, h⟩ := gd_some h
      refine gx_iast (σ' := (mkS σ [(3238, v_areKindsFound), (3214, v_far), (3215, v_heaps), (3212, v_isMeasured), (3203, v_posts)] [] [(70, v_newRoad), (71, (upd v_numberOf (x2.toNatClampNeg) (-1 : Int32))), (54, v_road), (59, v_wayOf)] [])) (f := v_numberOf) hx hb hK hG (ga_71 g _) hg23 ((gs_71 g _ _).trans (congrArg (g_cells g) (mk_c 1 rfl rfl))) dX9_fold_28 (fun H locs hG => ?_)
      refine lv_iconst (v := (0 : Int32)) hx hb dX9_fold_29 (by decide) ?_
      refine lv_istore_n (lv' := [(3, .int (0 : Int32)), (0, .ref (g.2.1 50)), (1, .int x1), (2, .int x2)]) hx hb dX9_fold_30 rfl hl (Nat.le_of_ble_eq_true rfl) rfl (fun ls hl => ?_)
      exact l31 k14 hk14 FUEL x1 x2 (0 : Int32) v_areKindsFound v_far v_heaps v_isMeasured v_posts v_newRoad (upd v_numberOf (x2.toNatClampNeg) (-1 : Int32)) v_road v_wayOf _ _ _ (lv_sub hl [1, 2, 3, 0] rfl) hG h
  have l14 : ∀  (F : Nat) (x1 : Int32) (x2 : Int32) (v_areKindsFound : Int32) (v_far : Int32) (v_heaps : Int32) (v_isMeasured : Int32) (v_posts : Int32) (v_newRoad : Nat → Int32) (v_numberOf : Nat → Int32) (v_road : Nat → Int32) (v_wayOf : Nat → Int32) (H : Heap) (locs : List Loc) (ls : Array Slot), lv_has ls 4 [(0, .ref (g.2.1 50)), (1, .int x1), (2, .int x2)] → GW g s (mkS σ [(3238, v_areKindsFound), (3214, v_far), (3215, v_heaps), (3212, v_isMeasured), (3203, v_posts)] [] [(70, v_newRoad), (71, v_numberOf), (54, v_road), (59, v_wayOf)] []) H locs → M_fold_l14 F x1 x2 v_areKindsFound v_far v_heaps v_isMeasured v_posts v_newRoad v_numberOf v_road v_wayOf = some (r, w_areKindsFound, w_far, w_heaps, w_isMeasured, w_posts, w_newRoad, w_numberOf, w_road, w_wayOf) → Wg p l e 4 91 s m args below meth c g (some (.int r)) (mkS σ [(3238, w_areKindsFound), (3214, w_far), (3215, w_heaps), (3212, w_isMeasured), (3203, w_posts)] [] [(70, w_newRoad), (71, w_numberOf), (54, w_road), (59, w_wayOf)] []) H locs (F0 m 14 ls []) := by
    intro F
    induction F with
    | zero => intro x1 x2 v_areKindsFound v_far v_heaps v_isMeasured v_posts v_newRoad v_numberOf v_road v_wayOf H locs ls hl hG h; exact no_some h
    | succ F ih => intro x1 x2 v_areKindsFound v_far v_heaps v_isMeasured v_posts v_newRoad v_numberOf v_road v_wayOf H locs ls hl hG h; exact n14 (fun x1 x2 v_areKindsFound v_far v_heaps v_isMeasured v_posts v_newRoad v_numberOf v_road v_wayOf => M_fold_l14 F x1 x2 v_areKindsFound v_far v_heaps v_isMeasured v_posts v_newRoad v_numberOf v_road v_wayOf) ih x1 x2 v_areKindsFound v_far v_heaps v_isMeasured v_posts v_newRoad v_numberOf v_road v_wayOf H locs ls hl hG h
  refine lv_aload_n hx hb dX9_fold_0 rfl (lv_at hl 0 rfl) ?_
  obtain ⟨z24, hc25, h⟩ := bnd_some h
  refine gx_cV (σ' := (mkS σ [(3238, (σ.1 3238)), (3214, z24.2.1), (3215, z24.2.2.1), (3212, z24.2.2.2.1), (3203, (σ.1 3203))] [] [(70, (σ.2.2.1 70)), (71, (σ.2.2.1 71)), (54, (σ.2.2.1 54)), (59, z24.2.2.2.2)] [])) (r := (some (.int z24.1))) (rest := []) (As := []) hS9 (c_M_isFolded l g (mkS σ [(3238, (σ.1 3238)), (3214, (σ.1 3214)), (3215, (σ.1 3215)), (3212, (σ.1 3212)), (3203, (σ.1 3203))] [] [(70, (σ.2.2.1 70)), (71, (σ.2.2.1 71)), (54, (σ.2.2.1 54)), (59, (σ.2.2.1 59))] []) z24.1 z24.2.1 z24.2.2.1 z24.2.2.2.1 z24.2.2.2.2 hc25) (mk_mk rfl rfl rfl rfl) (cwV 0 hts (gz_V mw_5_153 mw_5_155 ms_4_1 mw_1_11 mw_5_156) rfl rfl rfl hdV_X9_isFolded ⟨Nat.le_of_ble_eq_true rfl, Nat.le_of_ble_eq_true rfl⟩) hK hG (ga_50 g _) rfl rfl rfl hl.1 rfl (Nat.le_of_ble_eq_true rfl) dX9_fold_1 (fun H locs hG => ?_)
  refine W.eq (g2 := F0 m 4 ls [.int z24.1]) rfl ?_
  refine lv_if_ne (tgt := 10) hx hb dX9_fold_4 (by decide) (fun c26 => ?_) (fun c26 => ?_)
  · have h := ite_f c26 h
    refine lv_iconst (v := (0 : Int32)) hx hb dX9_fold_10 (by decide) ?_
    refine lv_istore_n (lv' := [(1, .int (0 : Int32)), (0, .ref (g.2.1 50))]) hx hb dX9_fold_11 rfl hl (Nat.le_of_ble_eq_true rfl) rfl (fun ls hl => ?_)
    refine lv_iconst (v := (0 : Int32)) hx hb dX9_fold_12 (by decide) ?_
    refine lv_istore_n (lv' := [(2, .int (0 : Int32)), (1, .int (0 : Int32)), (0, .ref (g.2.1 50))]) hx hb dX9_fold_13 rfl hl (Nat.le_of_ble_eq_true rfl) rfl (fun ls hl => ?_)
    exact l14 FUEL (0 : Int32) (0 : Int32) (σ.1 3238) z24.2.1 z24.2.2.1 z24.2.2.2.1 (σ.1 3203) (σ.2.2.1 70) (σ.2.2.1 71) (σ.2.2.1 54) z24.2.2.2.2 _ _ _ (lv_sub hl [2, 1, 0] rfl) hG h
  · have h := ite_t c26 h
    refine lv_bipush (v := (-5 : Int32)) hx hb dX9_fold_7 (by decide) ?_
    cases h
    exact gx_iret hx hb hr hlocks hG dX9_fold_9

