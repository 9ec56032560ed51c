set_option maxHeartbeats 4000000 in
set_option maxRecDepth 100000 in
theorem c_Td_findRoots (l : Launch) (g : GC) (σ : St) (r : Int32) (w_rootCount : Int32) (w_roots : Nat → Int32) (w_times : Nat → Int32) (w_scaled : Nat → Int64) (h : Td_findRoots (σ.1 1800) (σ.1 1801) (σ.2.1 1803) (σ.2.2.1 29) (σ.2.2.1 30) (σ.2.2.1 35) (σ.2.2.1 36) (σ.2.2.2 33) = some (r, w_rootCount, w_roots, w_times, w_scaled)) : Cn l g yX6_findRoots (Cond.code yX6_findRoots cX6_findRoots 3 (some .boolean) :: wG) 2 43 [.ref (g.2.1 28)] σ (some (.int r)) (mkS σ [(1801, w_rootCount)] [] [(35, w_roots), (36, w_times)] [(33, w_scaled)]) := by
  unfold Cn
  refine Met.ofW (cc := cX6_findRoots) (maxL := 3) (ret := (some .boolean)) (by decide) rfl ?_
  intro p e s m args below meth c s₁ B hml hv
  obtain ⟨hargs, hP0, hK⟩ := hv
  have hx := B.exec
  have hb := B.bytes
  have hr := B.returns
  have hts : ∀ w ∈ wG, w.before args s = true := fun w h => atoms_spec (ws := (Cond.code yX6_findRoots cX6_findRoots 3 (some .boolean) :: wG)) B.pre w (List.mem_cons_of_mem _ h)
  have hown : s.vm.findClass RX6 = some m.cls := findClass_of_methodNamed B.named
  have hlocks := B.notSynchronized
  have hS9 : CallFix p m c cX6_findRoots 3 s args wG RX6 := ⟨hx, hb, hml, hown, hts⟩
  have hw0 := hts _ mw_1_173
  have hw1 := hts _ mw_1_157
  have hw2 := hts _ mw_1_167
  have hw3 := hts _ mw_1_169
  have hf9 : entryFrame m args 3 = _ := (congrArg (fun a => entryFrame m a 3) hargs).trans (lg_entry_eq m [.ref (g.2.1 28)] 3)
  show Wg p l e 2 43 s m args below meth c g (some (.int r)) (mkS σ [(1801, w_rootCount)] [] [(35, w_roots), (36, w_times)] [(33, w_scaled)]) s.heap [] (entryFrame m args 3)
  rw [hf9]
  have hl := lv_entry ([.ref (g.2.1 28)]) (n := 3) (Nat.le_of_ble_eq_true rfl)
  generalize (lg_sl ([.ref (g.2.1 28)]) ++ List.replicate (3 - (lg_sl ([.ref (g.2.1 28)])).length) Slot.unset).toArray = ls at hl ⊢
  have hl : lv_has ls 3 [(0, .ref (g.2.1 28))] := hl
  have hG : GW g s σ s.heap [] := ⟨hP0, va_S.rf⟩
  have hG : GW g s (mkS σ [(1801, (σ.1 1801))] [] [(35, (σ.2.2.1 35)), (36, (σ.2.2.1 36))] [(33, (σ.2.2.2 33))]) s.heap [] := GW_self [1801] [] [35, 36] [33] hG
  unfold Td_findRoots at h
  have n97 : ∀ (k14 : Int32 → Int32 → Int32 → (Nat → Int32) → (Nat → Int32) → (Nat → Int64) → Option (Int32 × Int32 × (Nat → Int32) × (Nat → Int32) × (Nat → Int64))) (hk14 : ∀ (x1 : Int32) (x2 : Int32) (v_rootCount : Int32) (v_roots : Nat → Int32) (v_times : Nat → Int32) (v_scaled : Nat → Int64) (H : Heap) (locs : List Loc) (ls : Array Slot), lv_has ls 3 [(0, .ref (g.2.1 28)), (1, .int x1), (2, .int x2)] → GW g s (mkS σ [(1801, v_rootCount)] [] [(35, v_roots), (36, v_times)] [(33, v_scaled)]) H locs → k14 x1 x2 v_rootCount v_roots v_times v_scaled = some (r, w_rootCount, w_roots, w_times, w_scaled) → Wg p l e 2 43 s m args below meth c g (some (.int r)) (mkS σ [(1801, w_rootCount)] [] [(35, w_roots), (36, w_times)] [(33, w_scaled)]) H locs (F0 m 14 ls [])) (x1 : Int32) (x2 : Int32) (v_rootCount : Int32) (v_roots : Nat → Int32) (v_times : Nat → Int32) (v_scaled : Nat → Int64) (H : Heap) (locs : List Loc) (ls : Array Slot), lv_has ls 3 [(0, .ref (g.2.1 28)), (1, .int x1), (2, .int x2)] → GW g s (mkS σ [(1801, v_rootCount)] [] [(35, v_roots), (36, v_times)] [(33, v_scaled)]) H locs → Td_findRoots_n97 k14 x1 x2 v_rootCount v_roots v_times v_scaled = some (r, w_rootCount, w_roots, w_times, w_scaled) → Wg p l e 2 43 s m args below meth c g (some (.int r)) (mkS σ [(1801, w_rootCount)] [] [(35, w_roots), (36, w_times)] [(33, w_scaled)]) H locs (F0 m 97 ls []) := by
    intro k14 hk14 x1 x2 v_rootCount v_roots v_times v_scaled H locs ls hl hG h
    unfold Td_findRoots_n97 at h
    refine lv_iinc (v := (x2 + (-1 : Int32))) (lv' := [(2, .int (x2 + (-1 : Int32))), (0, .ref (g.2.1 28)), (1, .int x1)]) hx hb dX6_findRoots_97 hl (k := 2) rfl (congrArg (fun z => x2 + z) (by decide)) (Nat.le_of_ble_eq_true rfl) rfl (fun ls hl => ?_)
    refine lv_goto (tgt := 14) hx hb dX6_findRoots_100 (by decide) ?_
    exact hk14 x1 (x2 + (-1 : Int32)) v_rootCount v_roots v_times v_scaled _ _ _ (lv_sub hl [1, 2, 0] rfl) hG h
  have n86 : ∀ (k14 : Int32 → Int32 → Int32 → (Nat → Int32) → (Nat → Int32) → (Nat → Int64) → Option (Int32 × Int32 × (Nat → Int32) × (Nat → Int32) × (Nat → Int64))) (hk14 : ∀ (x1 : Int32) (x2 : Int32) (v_rootCount : Int32) (v_roots : Nat → Int32) (v_times : Nat → Int32) (v_scaled : Nat → Int64) (H : Heap) (locs : List Loc) (ls : Array Slot), lv_has ls 3 [(0, .ref (g.2.1 28)), (1, .int x1), (2, .int x2)] → GW g s (mkS σ [(1801, v_rootCount)] [] [(35, v_roots), (36, v_times)] [(33, v_scaled)]) H locs → k14 x1 x2 v_rootCount v_roots v_times v_scaled = some (r, w_rootCount, w_roots, w_times, w_scaled) → Wg p l e 2 43 s m args below meth c g (some (.int r)) (mkS σ [(1801, w_rootCount)] [] [(35, w_roots), (36, w_times)] [(33, w_scaled)]) H locs (F0 m 14 ls [])) (x2 : Int32) (t0 : Int32) (v_rootCount : Int32) (v_roots : Nat → Int32) (v_times : Nat → Int32) (v_scaled : Nat → Int64) (H : Heap) (locs : List Loc) (ls : Array Slot), lv_has ls 3 [(0, .ref (g.2.1 28)), (2, .int x2)] → GW g s (mkS σ [(1801, v_rootCount)] [] [(35, v_roots), (36, v_times)] [(33, v_scaled)]) H locs → Td_findRoots_n86 k14 x2 t0 v_rootCount v_roots v_times v_scaled = some (r, w_rootCount, w_roots, w_times, w_scaled) → Wg p l e 2 43 s m args below meth c g (some (.int r)) (mkS σ [(1801, w_rootCount)] [] [(35, w_roots), (36, w_times)] [(33, w_scaled)]) H locs (F0 m 86 ls [.int t0]) := by
    intro k14 hk14 x2 t0 v_rootCount v_roots v_times v_scaled H locs ls hl hG h
    unfold Td_findRoots_n86 at h
    refine lv_istore_n (lv' := [(1, .int t0), (0, .ref (g.2.1 28)), (2, .int x2)]) hx hb dX6_findRoots_86 rfl hl (Nat.le_of_ble_eq_true rfl) rfl (fun ls hl => ?_)
    refine lv_aload_n hx hb dX6_findRoots_87 rfl (lv_at hl 1 rfl) ?_
    refine lv_dup hx hb dX6_findRoots_88 rfl ?_
    refine gx_get (v := .int v_rootCount) (C := RX6) (T := TX6) (N := 13) hx hb hts mc_X6 hown hK hG (ga_28 g _) rfl 9 (by decide) hw0 rfl rfl dX6_findRoots_89 ?_
    refine lv_iconst (v := (1 : Int32)) hx hb dX6_findRoots_92 (by decide) ?_
    refine lv_iadd hx hb dX6_findRoots_93 ?_
    refine gx_put (σ' := (mkS σ [(1801, (v_rootCount + (1 : Int32)))] [] [(35, v_roots), (36, v_times)] [(33, v_scaled)])) (C := RX6) (T := TX6) (N := 13) hx hb hts mc_X6 tyX6 tyX6_ok nmX6 hown hK hG (ga_28 g _) rfl 9 (by decide) hw0 rfl rfl rfl rfl (Nat.le_of_ble_eq_true rfl) ((gf_1801 g _ _).trans (congrArg (g_cells g) (mk_a 0 rfl rfl))) dX6_findRoots_94 (fun H locs hG => ?_)
    exact n97 k14 hk14 t0 x2 (v_rootCount + (1 : Int32)) v_roots v_times v_scaled _ _ _ (lv_sub hl [1, 0, 2] rfl) hG h
  have n85 : ∀ (k14 : Int32 → Int32 → Int32 → (Nat → Int32) → (Nat → Int32) → (Nat → Int64) → Option (Int32 × Int32 × (Nat → Int32) × (Nat → Int32) × (Nat → Int64))) (hk14 : ∀ (x1 : Int32) (x2 : Int32) (v_rootCount : Int32) (v_roots : Nat → Int32) (v_times : Nat → Int32) (v_scaled : Nat → Int64) (H : Heap) (locs : List Loc) (ls : Array Slot), lv_has ls 3 [(0, .ref (g.2.1 28)), (1, .int x1), (2, .int x2)] → GW g s (mkS σ [(1801, v_rootCount)] [] [(35, v_roots), (36, v_times)] [(33, v_scaled)]) H locs → k14 x1 x2 v_rootCount v_roots v_times v_scaled = some (r, w_rootCount, w_roots, w_times, w_scaled) → Wg p l e 2 43 s m args below meth c g (some (.int r)) (mkS σ [(1801, w_rootCount)] [] [(35, w_roots), (36, w_times)] [(33, w_scaled)]) H locs (F0 m 14 ls [])) (x2 : Int32) (v_rootCount : Int32) (v_roots : Nat → Int32) (v_times : Nat → Int32) (v_scaled : Nat → Int64) (H : Heap) (locs : List Loc) (ls : Array Slot), lv_has ls 3 [(0, .ref (g.2.1 28)), (2, .int x2)] → GW g s (mkS σ [(1801, v_rootCount)] [] [(35, v_roots), (36, v_times)] [(33, v_scaled)]) H locs → Td_findRoots_n85 k14 x2 v_rootCount v_roots v_times v_scaled = some (r, w_rootCount, w_roots, w_times, w_scaled) → Wg p l e 2 43 s m args below meth c g (some (.int r)) (mkS σ [(1801, w_rootCount)] [] [(35, w_roots), (36, w_times)] [(33, w_scaled)]) H locs (F0 m 85 ls []) := by
    intro k14 hk14 x2 v_rootCount v_roots v_times v_scaled H locs ls hl hG h
    unfold Td_findRoots_n85 at h
    refine lv_iconst (v := (0 : Int32)) hx hb dX6_findRoots_85 (by decide) ?_
    exact n86 k14 hk14 x2 (0 : Int32) v_rootCount v_roots v_times v_scaled _ _ _ (lv_sub hl [0, 1] rfl) hG h
  have n103 : ∀ (x1 : Int32) (v_rootCount : Int32) (v_roots : Nat → Int32) (v_times : Nat → Int32) (v_scaled : Nat → Int64) (H : Heap) (locs : List Loc) (ls : Array Slot), lv_has ls 3 [(1, .int x1)] → GW g s (mkS σ [(1801, v_rootCount)] [] [(35, v_roots), (36, v_times)] [(33, v_scaled)]) H locs → Td_findRoots_n103 x1 v_rootCount v_roots v_times v_scaled = some (r, w_rootCount, w_roots, w_times, w_scaled) → Wg p l e 2 43 s m args below meth c g (some (.int r)) (mkS σ [(1801, w_rootCount)] [] [(35, w_roots), (36, w_times)] [(33, w_scaled)]) H locs (F0 m 103 ls []) := by
    intro x1 v_rootCount v_roots v_times v_scaled H locs ls hl hG h
    unfold Td_findRoots_n103 at h
    refine lv_iload_n hx hb dX6_findRoots_103 rfl (lv_at hl 0 rfl) ?_
    obtain ⟨hg1, h⟩ := gd_some h
    cases h
    exact gx_zret hx hb hr hlocks hg1 hG dX6_findRoots_104
  have n14 : ∀ (k14 : Int32 → Int32 → Int32 → (Nat → Int32) → (Nat → Int32) → (Nat → Int64) → Option (Int32 × Int32 × (Nat → Int32) × (Nat → Int32) × (Nat → Int64))) (hk14 : ∀ (x1 : Int32) (x2 : Int32) (v_rootCount : Int32) (v_roots : Nat → Int32) (v_times : Nat → Int32) (v_scaled : Nat → Int64) (H : Heap) (locs : List Loc) (ls : Array Slot), lv_has ls 3 [(0, .ref (g.2.1 28)), (1, .int x1), (2, .int x2)] → GW g s (mkS σ [(1801, v_rootCount)] [] [(35, v_roots), (36, v_times)] [(33, v_scaled)]) H locs → k14 x1 x2 v_rootCount v_roots v_times v_scaled = some (r, w_rootCount, w_roots, w_times, w_scaled) → Wg p l e 2 43 s m args below meth c g (some (.int r)) (mkS σ [(1801, w_rootCount)] [] [(35, w_roots), (36, w_times)] [(33, w_scaled)]) H locs (F0 m 14 ls [])) (x1 : Int32) (x2 : Int32) (v_rootCount : Int32) (v_roots : Nat → Int32) (v_times : Nat → Int32) (v_scaled : Nat → Int64) (H : Heap) (locs : List Loc) (ls : Array Slot), lv_has ls 3 [(0, .ref (g.2.1 28)), (1, .int x1), (2, .int x2)] → GW g s (mkS σ [(1801, v_rootCount)] [] [(35, v_roots), (36, v_times)] [(33, v_scaled)]) H locs → Td_findRoots_n14 k14 (σ.1 1800) (σ.2.1 1803) (σ.2.2.1 29) (σ.2.2.1 30) x1 x2 v_rootCount v_roots v_times v_scaled = some (r, w_rootCount, w_roots, w_times, w_scaled) → Wg p l e 2 43 s m args below meth c g (some (.int r)) (mkS σ [(1801, w_rootCount)] [] [(35, w_roots), (36, w_times)] [(33, w_scaled)]) H locs (F0 m 14 ls []) := by
    intro k14 hk14 x1 x2 v_rootCount v_roots v_times v_scaled H locs ls hl hG h
    unfold Td_findRoots_n14 at h
    refine lv_iload_n hx hb dX6_findRoots_14 rfl (lv_at hl 2 rfl) ?_
    refine lv_aload_n hx hb dX6_findRoots_15 rfl (lv_at hl 0 rfl) ?_
    refine gx_get (v := .ref (g.2.1 29)) (C := RX6) (T := TX6) (N := 13) hx hb hts mc_X6 hown hK hG (ga_28 g _) rfl 0 (by decide) hw1 rfl rfl dX6_findRoots_16 ?_
    refine lv_iconst (v := (0 : Int32)) hx hb dX6_findRoots_19 (by decide) ?_
    refine gx_iald (f := (σ.2.2.1 29)) hx hb hK hG (ga_29 g _) (by decide) dX6_findRoots_20 ?_
    refine lv_ineg hx hb dX6_findRoots_21 ?_
    refine lv_icmp_lt (tgt := 103) hx hb dX6_findRoots_22 (by decide) (fun c2 => ?_) (fun c2 => ?_)
    · have h := ite_t c2 h
      exact n103 x1 v_rootCount v_roots v_times v_scaled _ _ _ (lv_sub hl [1] rfl) hG h
    · have h := ite_f c2 h
      refine lv_aload_n hx hb dX6_findRoots_25 rfl (lv_at hl 0 rfl) ?_
      refine lv_iload_n hx hb dX6_findRoots_26 rfl (lv_at hl 2 rfl) ?_
      obtain ⟨z3, hc4, h⟩ := bnd_some h
      refine gx_cV (σ' := (mkS σ [(1801, v_rootCount)] [] [(35, v_roots), (36, v_times)] [(33, z3.2)])) (r := (some (.int z3.1))) (rest := []) (As := [.int x2]) hS9 (c_Td_isRoot l g (mkS σ [(1801, v_rootCount)] [] [(35, v_roots), (36, v_times)] [(33, v_scaled)]) x2 z3.1 z3.2 hc4) (mk_mk rfl rfl rfl rfl) (cwV 1 hts (gz_V mw_3_197 mw_3_199 ms_2_7 mw_1_7 mw_3_200) rfl rfl rfl hdV_X6_isRoot ⟨Nat.le_of_ble_eq_true rfl, Nat.le_of_ble_eq_true rfl⟩) hK hG (ga_28 g _) rfl rfl rfl hl.1 rfl (Nat.le_of_ble_eq_true rfl) dX6_findRoots_27 (fun H locs hG => ?_)
      refine W.eq (g2 := F0 m 30 ls [.int z3.1]) rfl ?_
      refine lv_if_eq (tgt := 97) hx hb dX6_findRoots_30 (by decide) (fun c5 => ?_) (fun c5 => ?_)
      · have h := ite_t c5 h
        exact n97 k14 hk14 x1 x2 v_rootCount v_roots v_times z3.2 _ _ _ (lv_sub hl [0, 1, 2] rfl) hG h
      · have h := ite_f c5 h
        refine lv_aload_n hx hb dX6_findRoots_33 rfl (lv_at hl 0 rfl) ?_
        refine gx_get (v := .int v_rootCount) (C := RX6) (T := TX6) (N := 13) hx hb hts mc_X6 hown hK hG (ga_28 g _) rfl 9 (by decide) hw0 rfl rfl dX6_findRoots_34 ?_
        refine lv_bipush (v := (6 : Int32)) hx hb dX6_findRoots_37 (by decide) ?_
        refine lv_icmp_ge (tgt := 97) hx hb dX6_findRoots_39 (by decide) (fun c6 => ?_) (fun c6 => ?_)
        · have h := ite_t c6 h
          exact n97 k14 hk14 x1 x2 v_rootCount v_roots v_times z3.2 _ _ _ (lv_sub hl [0, 1, 2] rfl) hG h
        · have h := ite_f c6 h
          refine lv_aload_n hx hb dX6_findRoots_42 rfl (lv_at hl 0 rfl) ?_
          refine gx_get (v := .ref (g.2.1 35)) (C := RX6) (T := TX6) (N := 13) hx hb hts mc_X6 hown hK hG (ga_28 g _) rfl 6 (by decide) hw2 rfl rfl dX6_findRoots_43 ?_
          refine lv_aload_n hx hb dX6_findRoots_46 rfl (lv_at hl 0 rfl) ?_
          refine gx_get (v := .int v_rootCount) (C := RX6) (T := TX6) (N := 13) hx hb hts mc_X6 hown hK hG (ga_28 g _) rfl 9 (by decide) hw0 rfl rfl dX6_findRoots_47 ?_
          refine lv_iload_n hx hb dX6_findRoots_50 rfl (lv_at hl 2 rfl) ?_
          obtain ⟨hg7, h⟩ := gd_some h
          refine gx_iast (σ' := (mkS σ [(1801, v_rootCount)] [] [(35, (upd v_roots (v_rootCount.toNatClampNeg) x2)), (36, v_times)] [(33, z3.2)])) (f := v_roots) hx hb hK hG (ga_35 g _) hg7 ((gs_35 g _ _).trans (congrArg (g_cells g) (mk_c 0 rfl rfl))) dX6_findRoots_51 (fun H locs hG => ?_)
          refine lv_aload_n hx hb dX6_findRoots_52 rfl (lv_at hl 0 rfl) ?_
          refine gx_get (v := .ref (g.2.1 36)) (C := RX6) (T := TX6) (N := 13) hx hb hts mc_X6 hown hK hG (ga_28 g _) rfl 7 (by decide) hw3 rfl rfl dX6_findRoots_53 ?_
          refine lv_aload_n hx hb dX6_findRoots_56 rfl (lv_at hl 0 rfl) ?_
          refine gx_get (v := .int v_rootCount) (C := RX6) (T := TX6) (N := 13) hx hb hts mc_X6 hown hK hG (ga_28 g _) rfl 9 (by decide) hw0 rfl rfl dX6_findRoots_57 ?_
          refine lv_aload_n hx hb dX6_findRoots_60 rfl (lv_at hl 0 rfl) ?_
          obtain ⟨z8, hc9, h⟩ := bnd_some h
          refine gx_cV (σ' := (mkS σ [(1801, v_rootCount)] [] [(35, (upd v_roots (v_rootCount.toNatClampNeg) x2)), (36, v_times)] [(33, z3.2)])) (r := (some (.int z8))) (rest := [.int v_rootCount, .ref (g.2.1 36)]) (As := []) hS9 (c_Td_timesOfScaled l g (mkS σ [(1801, v_rootCount)] [] [(35, (upd v_roots (v_rootCount.toNatClampNeg) x2)), (36, v_times)] [(33, z3.2)]) z8 hc9) rfl (cwV 0 hts (gz_V mw_3_201 mw_3_203 ms_2_8 mw_1_7 mw_3_204) rfl rfl rfl hdV_X6_timesOfScaled ⟨Nat.le_of_ble_eq_true rfl, Nat.le_of_ble_eq_true rfl⟩) hK hG (ga_28 g _) rfl rfl rfl hl.1 rfl (Nat.le_of_ble_eq_true rfl) dX6_findRoots_61 (fun H locs hG => ?_)
          refine W.eq (g2 := F0 m 64 ls [.int z8, .int v_rootCount, .ref (g.2.1 36)]) rfl ?_
          refine gx_iast (σ' := (mkS σ [(1801, v_rootCount)] [] [(35, (upd v_roots (v_rootCount.toNatClampNeg) x2)), (36, (upd v_times (v_rootCount.toNatClampNeg) z8))] [(33, z3.2)])) (f := v_times) hx hb hK hG (ga_36 g _) hg7 ((gs_36 g _ _).trans (congrArg (g_cells g) (mk_c 1 rfl rfl))) dX6_findRoots_64 (fun H locs hG => ?_)
          refine lv_iload_n hx hb dX6_findRoots_65 rfl (lv_at hl 1 rfl) ?_
          refine lv_if_eq (tgt := 85) hx hb dX6_findRoots_66 (by decide) (fun c10 => ?_) (fun c10 => ?_)
          · have h := ite_t c10 h
            exact n85 k14 hk14 x2 v_rootCount (upd v_roots (v_rootCount.toNatClampNeg) x2) (upd v_times (v_rootCount.toNatClampNeg) z8) z3.2 _ _ _ (lv_sub hl [0, 2] rfl) hG h
          · have h := ite_f c10 h
            refine lv_aload_n hx hb dX6_findRoots_69 rfl (lv_at hl 0 rfl) ?_
            refine gx_get (v := .ref (g.2.1 36)) (C := RX6) (T := TX6) (N := 13) hx hb hts mc_X6 hown hK hG (ga_28 g _) rfl 7 (by decide) hw3 rfl rfl dX6_findRoots_70 ?_
            refine lv_aload_n hx hb dX6_findRoots_73 rfl (lv_at hl 0 rfl) ?_
            refine gx_get (v := .int v_rootCount) (C := RX6) (T := TX6) (N := 13) hx hb hts mc_X6 hown hK hG (ga_28 g _) rfl 9 (by decide) hw0 rfl rfl dX6_findRoots_74 ?_
            refine gx_iald (f := (upd v_times (v_rootCount.toNatClampNeg) z8)) hx hb hK hG (ga_36 g _) hg7 dX6_findRoots_77 ?_
            refine lv_if_lt (tgt := 85) hx hb dX6_findRoots_78 (by decide) (fun c11 => ?_) (fun c11 => ?_)
            · have h := ite_t c11 h
              exact n85 k14 hk14 x2 v_rootCount (upd v_roots (v_rootCount.toNatClampNeg) x2) (upd v_times (v_rootCount.toNatClampNeg) z8) z3.2 _ _ _ (lv_sub hl [0, 2] rfl) hG h
            · have h := ite_f c11 h
              refine lv_iconst (v := (1 : Int32)) hx hb dX6_findRoots_81 (by decide) ?_
              refine lv_goto (tgt := 86) hx hb dX6_findRoots_82 (by decide) ?_
              exact n86 k14 hk14 x2 (1 : Int32) v_rootCount (upd v_roots (v_rootCount.toNatClampNeg) x2) (upd v_times (v_rootCount.toNatClampNeg) z8) z3.2 _ _ _ (lv_sub hl [0, 2] rfl) hG h
  have l14 : ∀  (F : Nat) (x1 : Int32) (x2 : Int32) (v_rootCount : Int32) (v_roots : Nat → Int32) (v_times : Nat → Int32) (v_scaled : Nat → Int64) (H : Heap) (locs : List Loc) (ls : Array Slot), lv_has ls 3 [(0, .ref (g.2.1 28)), (1, .int x1), (2, .int x2)] → GW g s (mkS σ [(1801, v_rootCount)] [] [(35, v_roots), (36, v_times)] [(33, v_scaled)]) H locs → Td_findRoots_l14 (σ.1 1800) (σ.2.1 1803) (σ.2.2.1 29) (σ.2.2.1 30) F x1 x2 v_rootCount v_roots v_times v_scaled = some (r, w_rootCount, w_roots, w_times, w_scaled) → Wg p l e 2 43 s m args below meth c g (some (.int r)) (mkS σ [(1801, w_rootCount)] [] [(35, w_roots), (36, w_times)] [(33, w_scaled)]) H locs (F0 m 14 ls []) := by
    intro F
    induction F with
    | zero => intro x1 x2 v_rootCount v_roots v_times v_scaled H locs ls hl hG h; exact no_some h
    | succ F ih => intro x1 x2 v_rootCount v_roots v_times v_scaled H locs ls hl hG h; exact n14 (fun x1 x2 v_rootCount v_roots v_times v_scaled => Td_findRoots_l14 (σ.1 1800) (σ.2.1 1803) (σ.2.2.1 29) (σ.2.2.1 30) F x1 x2 v_rootCount v_roots v_times v_scaled) ih x1 x2 v_rootCount v_roots v_times v_scaled H locs ls hl hG h
  refine lv_aload_n hx hb dX6_findRoots_0 rfl (lv_at hl 0 rfl) ?_
  refine lv_iconst (v := (0 : Int32)) hx hb dX6_findRoots_1 (by decide) ?_
  refine gx_put (σ' := (mkS σ [(1801, (0 : Int32))] [] [(35, (σ.2.2.1 35)), (36, (σ.2.2.1 36))] [(33, (σ.2.2.2 33))])) (C := RX6) (T := TX6) (N := 13) hx hb hts mc_X6 tyX6 tyX6_ok nmX6 hown hK hG (ga_28 g _) rfl 9 (by decide) hw0 rfl rfl rfl rfl (Nat.le_of_ble_eq_true rfl) ((gf_1801 g _ _).trans (congrArg (g_cells g) (mk_a 0 rfl rfl))) dX6_findRoots_2 (fun H locs hG => ?_)
  refine lv_iconst (v := (1 : Int32)) hx hb dX6_findRoots_5 (by decide) ?_
  refine lv_istore_n (lv' := [(1, .int (1 : Int32)), (0, .ref (g.2.1 28))]) hx hb dX6_findRoots_6 rfl hl (Nat.le_of_ble_eq_true rfl) rfl (fun ls hl => ?_)
  refine lv_aload_n hx hb dX6_findRoots_7 rfl (lv_at hl 1 rfl) ?_
  refine gx_get (v := .ref (g.2.1 29)) (C := RX6) (T := TX6) (N := 13) hx hb hts mc_X6 hown hK hG (ga_28 g _) rfl 0 (by decide) hw1 rfl rfl dX6_findRoots_8 ?_
  refine lv_iconst (v := (0 : Int32)) hx hb dX6_findRoots_11 (by decide) ?_
  refine gx_iald (f := (σ.2.2.1 29)) hx hb hK hG (ga_29 g _) (by decide) dX6_findRoots_12 ?_
  refine lv_istore_n (lv' := [(2, .int ((σ.2.2.1 29) ((0 : Int32).toNatClampNeg))), (1, .int (1 : Int32)), (0, .ref (g.2.1 28))]) hx hb dX6_findRoots_13 rfl hl (Nat.le_of_ble_eq_true rfl) rfl (fun ls hl => ?_)
  exact l14 FUEL (1 : Int32) ((σ.2.2.1 29) ((0 : Int32).toNatClampNeg)) (0 : Int32) (σ.2.2.1 35) (σ.2.2.1 36) (σ.2.2.2 33) _ _ _ (lv_sub hl [2, 1, 0] rfl) hG h

set_option maxHeartbeats 4000000 in
set_option maxRecDepth 100000 in
theorem c_Td_judge (l : Launch) (g : GC) (σ : St) (r : Int32) (w_rootCount : Int32) (w_total : Int64) (w_roots : Nat → Int32) (w_times : Nat → Int32) (w_k : Nat → Int64) (w_scaled : Nat → Int64) (w_t : Nat → Int64) (h : Td_judge (σ.1 1800) (σ.1 1801) (σ.2.1 1803) (σ.2.2.1 29) (σ.2.2.1 30) (σ.2.2.1 35) (σ.2.2.1 36) (σ.2.2.2 31) (σ.2.2.2 33) (σ.2.2.2 32) = some (r, w_rootCount, w_total, w_roots, w_times, w_k, w_scaled, w_t)) : Cn l g yX6_judge (Cond.code yX6_judge cX6_judge 1 (some .int) :: wG) 3 72 [.ref (g.2.1 28)] σ (some (.int r)) (mkS σ [(1801, w_rootCount)] [(1803, w_total)] [(35, w_roots), (36, w_times)] [(31, w_k), (33, w_scaled), (32, w_t)]) := by
  unfold Cn
  refine Met.ofW (cc := cX6_judge) (maxL := 1) (ret := (some .int)) (by decide) rfl ?_
  intro p e s m args below meth c s₁ B hml hv
  obtain ⟨hargs, hP0, hK⟩ := hv
  have hx := B.exec
  have hb := B.bytes
  have hr := B.returns
  have hts : ∀ w ∈ wG, w.before args s = true := fun w h => atoms_spec (ws := (Cond.code yX6_judge cX6_judge 1 (some .int) :: wG)) B.pre w (List.mem_cons_of_mem _ h)
  have hown : s.vm.findClass RX6 = some m.cls := findClass_of_methodNamed B.named
  have hlocks := B.notSynchronized
  have hS9 : CallFix p m c cX6_judge 1 s args wG RX6 := ⟨hx, hb, hml, hown, hts⟩
  have hf9 : entryFrame m args 1 = _ := (congrArg (fun a => entryFrame m a 1) hargs).trans (lg_entry_eq m [.ref (g.2.1 28)] 1)
  show Wg p l e 3 72 s m args below meth c g (some (.int r)) (mkS σ [(1801, w_rootCount)] [(1803, w_total)] [(35, w_roots), (36, w_times)] [(31, w_k), (33, w_scaled), (32, w_t)]) s.heap [] (entryFrame m args 1)
  rw [hf9]
  have hl := lv_entry ([.ref (g.2.1 28)]) (n := 1) (Nat.le_of_ble_eq_true rfl)
  generalize (lg_sl ([.ref (g.2.1 28)]) ++ List.replicate (1 - (lg_sl ([.ref (g.2.1 28)])).length) Slot.unset).toArray = ls at hl ⊢
  have hl : lv_has ls 1 [(0, .ref (g.2.1 28))] := hl
  have hG : GW g s σ s.heap [] := ⟨hP0, va_S.rf⟩
  have hG : GW g s (mkS σ [(1801, (σ.1 1801))] [(1803, (σ.2.1 1803))] [(35, (σ.2.2.1 35)), (36, (σ.2.2.1 36))] [(31, (σ.2.2.2 31)), (33, (σ.2.2.2 33)), (32, (σ.2.2.2 32))]) s.heap [] := GW_self [1801] [1803] [35, 36] [31, 33, 32] hG
  unfold Td_judge at h
  have n72 : ∀ (t0 : Int32) (v_rootCount : Int32) (v_total : Int64) (v_roots : Nat → Int32) (v_times : Nat → Int32) (v_k : Nat → Int64) (v_scaled : Nat → Int64) (v_t : Nat → Int64) (H : Heap) (locs : List Loc) (ls : Array Slot), lv_has ls 1 [] → GW g s (mkS σ [(1801, v_rootCount)] [(1803, v_total)] [(35, v_roots), (36, v_times)] [(31, v_k), (33, v_scaled), (32, v_t)]) H locs → Td_judge_n72 t0 v_rootCount v_total v_roots v_times v_k v_scaled v_t = some (r, w_rootCount, w_total, w_roots, w_times, w_k, w_scaled, w_t) → Wg p l e 3 72 s m args below meth c g (some (.int r)) (mkS σ [(1801, w_rootCount)] [(1803, w_total)] [(35, w_roots), (36, w_times)] [(31, w_k), (33, w_scaled), (32, w_t)]) H locs (F0 m 72 ls [.int t0]) := by
    intro t0 v_rootCount v_total v_roots v_times v_k v_scaled v_t H locs ls hl hG h
    unfold Td_judge_n72 at h
    cases h
    exact gx_iret hx hb hr hlocks hG dX6_judge_72
  refine lv_aload_n hx hb dX6_judge_0 rfl (lv_at hl 0 rfl) ?_
  obtain ⟨z1, hc2, h⟩ := bnd_some h
  refine gx_cV (σ' := (mkS σ [(1801, (σ.1 1801))] [(1803, (σ.2.1 1803))] [(35, (σ.2.2.1 35)), (36, (σ.2.2.1 36))] [(31, (σ.2.2.2 31)), (33, (σ.2.2.2 33)), (32, (σ.2.2.2 32))])) (r := (some (.int z1))) (rest := []) (As := []) hS9 (c_Td_isPositive l g (mkS σ [(1801, (σ.1 1801))] [(1803, (σ.2.1 1803))] [(35, (σ.2.2.1 35)), (36, (σ.2.2.1 36))] [(31, (σ.2.2.2 31)), (33, (σ.2.2.2 33)), (32, (σ.2.2.2 32))]) z1 hc2) rfl (cwV 0 hts (gz_V mw_3_148 mw_3_150 ms_1_13 mw_1_7 mw_3_151) rfl rfl rfl hdV_X6_isPositive ⟨Nat.le_of_ble_eq_true rfl, Nat.le_of_ble_eq_true rfl⟩) hK hG (ga_28 g _) rfl rfl rfl hl.1 rfl (Nat.le_of_ble_eq_true rfl) dX6_judge_1 (fun H locs hG => ?_)
  refine W.eq (g2 := F0 m 4 ls [.int z1]) rfl ?_
  refine lv_if_ne (tgt := 9) hx hb dX6_judge_4 (by decide) (fun c3 => ?_) (fun c3 => ?_)
  · have h := ite_f c3 h
    refine lv_aload_n hx hb dX6_judge_9 rfl (lv_at hl 0 rfl) ?_
    obtain ⟨z4, hc5, h⟩ := bnd_some h
    refine gx_cV (σ' := (mkS σ [(1801, (σ.1 1801))] [(1803, (σ.2.1 1803))] [(35, (σ.2.2.1 35)), (36, (σ.2.2.1 36))] [(31, (σ.2.2.2 31)), (33, (σ.2.2.2 33)), (32, (σ.2.2.2 32))])) (r := (some (.int z4))) (rest := []) (As := []) hS9 (c_Td_hasRoom l g (mkS σ [(1801, (σ.1 1801))] [(1803, (σ.2.1 1803))] [(35, (σ.2.2.1 35)), (36, (σ.2.2.1 36))] [(31, (σ.2.2.2 31)), (33, (σ.2.2.2 33)), (32, (σ.2.2.2 32))]) z4 hc5) rfl (cwV 0 hts (gz_V mw_3_152 mw_3_154 ms_1_14 mw_1_7 mw_3_155) rfl rfl rfl hdV_X6_hasRoom ⟨Nat.le_of_ble_eq_true rfl, Nat.le_of_ble_eq_true rfl⟩) hK hG (ga_28 g _) rfl rfl rfl hl.1 rfl (Nat.le_of_ble_eq_true rfl) dX6_judge_10 (fun H locs hG => ?_)
    refine W.eq (g2 := F0 m 13 ls [.int z4]) rfl ?_
    refine lv_if_ne (tgt := 18) hx hb dX6_judge_13 (by decide) (fun c6 => ?_) (fun c6 => ?_)
    · have h := ite_f c6 h
      refine lv_aload_n hx hb dX6_judge_18 rfl (lv_at hl 0 rfl) ?_
      obtain ⟨z7, hc8, h⟩ := bnd_some h
      refine gx_cV (σ' := (mkS σ [(1801, (σ.1 1801))] [(1803, (σ.2.1 1803))] [(35, (σ.2.2.1 35)), (36, (σ.2.2.1 36))] [(31, (σ.2.2.2 31)), (33, (σ.2.2.2 33)), (32, (σ.2.2.2 32))])) (r := (some (.int z7))) (rest := []) (As := []) hS9 (c_Td_isInOrder l g (mkS σ [(1801, (σ.1 1801))] [(1803, (σ.2.1 1803))] [(35, (σ.2.2.1 35)), (36, (σ.2.2.1 36))] [(31, (σ.2.2.2 31)), (33, (σ.2.2.2 33)), (32, (σ.2.2.2 32))]) z7 hc8) rfl (cwV 0 hts (gz_V mw_3_160 mw_3_162 ms_1_15 mw_1_7 mw_3_163) rfl rfl rfl hdV_X6_isInOrder ⟨Nat.le_of_ble_eq_true rfl, Nat.le_of_ble_eq_true rfl⟩) hK hG (ga_28 g _) rfl rfl rfl hl.1 rfl (Nat.le_of_ble_eq_true rfl) dX6_judge_19 (fun H locs hG => ?_)
      refine W.eq (g2 := F0 m 22 ls [.int z7]) rfl ?_
      refine lv_if_ne (tgt := 27) hx hb dX6_judge_22 (by decide) (fun c9 => ?_) (fun c9 => ?_)
      · have h := ite_f c9 h
        refine lv_aload_n hx hb dX6_judge_27 rfl (lv_at hl 0 rfl) ?_
        obtain ⟨z10, hc11, h⟩ := bnd_some h
        refine gx_cV (σ' := (mkS σ [(1801, (σ.1 1801))] [(1803, z10.2.1)] [(35, (σ.2.2.1 35)), (36, (σ.2.2.1 36))] [(31, z10.2.2), (33, (σ.2.2.2 33)), (32, (σ.2.2.2 32))])) (r := (some (.int z10.1))) (rest := []) (As := []) hS9 (c_Td_countLayers l g (mkS σ [(1801, (σ.1 1801))] [(1803, (σ.2.1 1803))] [(35, (σ.2.2.1 35)), (36, (σ.2.2.1 36))] [(31, (σ.2.2.2 31)), (33, (σ.2.2.2 33)), (32, (σ.2.2.2 32))]) z10.1 z10.2.1 z10.2.2 hc11) (mk_mk rfl rfl rfl rfl) (cwV 0 hts (gz_V mw_3_164 mw_3_166 ms_2_0 mw_1_7 mw_3_167) rfl rfl rfl hdV_X6_countLayers ⟨Nat.le_of_ble_eq_true rfl, Nat.le_of_ble_eq_true rfl⟩) hK hG (ga_28 g _) rfl rfl rfl hl.1 rfl (Nat.le_of_ble_eq_true rfl) dX6_judge_28 (fun H locs hG => ?_)
        refine W.eq (g2 := F0 m 31 ls [.int z10.1]) rfl ?_
        refine lv_if_ne (tgt := 36) hx hb dX6_judge_31 (by decide) (fun c12 => ?_) (fun c12 => ?_)
        · have h := ite_f c12 h
          refine lv_aload_n hx hb dX6_judge_36 rfl (lv_at hl 0 rfl) ?_
          obtain ⟨z13, hc14, h⟩ := bnd_some h
          refine gx_cV (σ' := (mkS σ [(1801, (σ.1 1801))] [(1803, z10.2.1)] [(35, (σ.2.2.1 35)), (36, (σ.2.2.1 36))] [(31, z10.2.2), (33, (σ.2.2.2 33)), (32, (σ.2.2.2 32))])) (r := (some (.int z13))) (rest := []) (As := []) hS9 (c_Td_isPaired l g (mkS σ [(1801, (σ.1 1801))] [(1803, z10.2.1)] [(35, (σ.2.2.1 35)), (36, (σ.2.2.1 36))] [(31, z10.2.2), (33, (σ.2.2.2 33)), (32, (σ.2.2.2 32))]) z13 hc14) rfl (cwV 0 hts (gz_V mw_3_169 mw_3_171 ms_2_1 mw_1_7 mw_3_172) rfl rfl rfl hdV_X6_isPaired ⟨Nat.le_of_ble_eq_true rfl, Nat.le_of_ble_eq_true rfl⟩) hK hG (ga_28 g _) rfl rfl rfl hl.1 rfl (Nat.le_of_ble_eq_true rfl) dX6_judge_37 (fun H locs hG => ?_)
          refine W.eq (g2 := F0 m 40 ls [.int z13]) rfl ?_
          refine lv_if_ne (tgt := 45) hx hb dX6_judge_40 (by decide) (fun c15 => ?_) (fun c15 => ?_)
          · have h := ite_f c15 h
            refine lv_aload_n hx hb dX6_judge_45 rfl (lv_at hl 0 rfl) ?_
            obtain ⟨z16, hc17, h⟩ := bnd_some h
            refine gx_cV (σ' := (mkS σ [(1801, (σ.1 1801))] [(1803, z10.2.1)] [(35, (σ.2.2.1 35)), (36, (σ.2.2.1 36))] [(31, z10.2.2), (33, (σ.2.2.2 33)), (32, z16)])) (r := none) (rest := []) (As := []) hS9 (c_Td_layFirstThirds l g (mkS σ [(1801, (σ.1 1801))] [(1803, z10.2.1)] [(35, (σ.2.2.1 35)), (36, (σ.2.2.1 36))] [(31, z10.2.2), (33, (σ.2.2.2 33)), (32, (σ.2.2.2 32))]) z16 hc17) (mk_mk rfl rfl rfl rfl) (cwV 0 hts (gz_V mw_3_174 mw_3_176 ms_2_2 mw_1_7 mw_3_177) rfl rfl rfl hdV_X6_layFirstThirds ⟨Nat.le_of_ble_eq_true rfl, Nat.le_of_ble_eq_true rfl⟩) hK hG (ga_28 g _) rfl rfl rfl hl.1 rfl (Nat.le_of_ble_eq_true rfl) dX6_judge_46 (fun H locs hG => ?_)
            refine W.eq (g2 := F0 m 49 ls []) rfl ?_
            refine lv_aload_n hx hb dX6_judge_49 rfl (lv_at hl 0 rfl) ?_
            obtain ⟨z18, hc19, h⟩ := bnd_some h
            refine gx_cV (σ' := (mkS σ [(1801, (σ.1 1801))] [(1803, z10.2.1)] [(35, (σ.2.2.1 35)), (36, (σ.2.2.1 36))] [(31, z10.2.2), (33, (σ.2.2.2 33)), (32, z18.2)])) (r := (some (.int z18.1))) (rest := []) (As := []) hS9 (c_Td_layOtherThirds l g (mkS σ [(1801, (σ.1 1801))] [(1803, z10.2.1)] [(35, (σ.2.2.1 35)), (36, (σ.2.2.1 36))] [(31, z10.2.2), (33, (σ.2.2.2 33)), (32, z16)]) z18.1 z18.2 hc19) (mk_mk rfl rfl rfl rfl) (cwV 0 hts (gz_V mw_3_185 mw_3_187 ms_2_4 mw_1_7 mw_3_188) rfl rfl rfl hdV_X6_layOtherThirds ⟨Nat.le_of_ble_eq_true rfl, Nat.le_of_ble_eq_true rfl⟩) hK hG (ga_28 g _) rfl rfl rfl hl.1 rfl (Nat.le_of_ble_eq_true rfl) dX6_judge_50 (fun H locs hG => ?_)
            refine W.eq (g2 := F0 m 53 ls [.int z18.1]) rfl ?_
            refine lv_if_ne (tgt := 59) hx hb dX6_judge_53 (by decide) (fun c20 => ?_) (fun c20 => ?_)
            · have h := ite_f c20 h
              refine lv_aload_n hx hb dX6_judge_59 rfl (lv_at hl 0 rfl) ?_
              obtain ⟨z21, hc22, h⟩ := bnd_some h
              refine gx_cV (σ' := (mkS σ [(1801, z21.2.1)] [(1803, z10.2.1)] [(35, z21.2.2.1), (36, z21.2.2.2.1)] [(31, z10.2.2), (33, z21.2.2.2.2), (32, z18.2)])) (r := (some (.int z21.1))) (rest := []) (As := []) hS9 (c_Td_findRoots l g (mkS σ [(1801, (σ.1 1801))] [(1803, z10.2.1)] [(35, (σ.2.2.1 35)), (36, (σ.2.2.1 36))] [(31, z10.2.2), (33, (σ.2.2.2 33)), (32, z18.2)]) z21.1 z21.2.1 z21.2.2.1 z21.2.2.2.1 z21.2.2.2.2 hc22) (mk_mk rfl rfl rfl rfl) (cwV 0 hts (gz_V mw_3_193 mw_3_195 ms_2_6 mw_1_7 mw_3_196) rfl rfl rfl hdV_X6_findRoots ⟨Nat.le_of_ble_eq_true rfl, Nat.le_of_ble_eq_true rfl⟩) hK hG (ga_28 g _) rfl rfl rfl hl.1 rfl (Nat.le_of_ble_eq_true rfl) dX6_judge_60 (fun H locs hG => ?_)
              refine W.eq (g2 := F0 m 63 ls [.int z21.1]) rfl ?_
              refine lv_if_eq (tgt := 70) hx hb dX6_judge_63 (by decide) (fun c23 => ?_) (fun c23 => ?_)
              · have h := ite_t c23 h
                refine lv_bipush (v := (7 : Int32)) hx hb dX6_judge_70 (by decide) ?_
                exact n72 (7 : Int32) z21.2.1 z10.2.1 z21.2.2.1 z21.2.2.2.1 z10.2.2 z21.2.2.2.2 z18.2 _ _ _ (lv_sub hl [] rfl) hG h
              · have h := ite_f c23 h
                refine lv_iconst (v := (0 : Int32)) hx hb dX6_judge_66 (by decide) ?_
                refine lv_goto (tgt := 72) hx hb dX6_judge_67 (by decide) ?_
                exact n72 (0 : Int32) z21.2.1 z10.2.1 z21.2.2.1 z21.2.2.2.1 z10.2.2 z21.2.2.2.2 z18.2 _ _ _ (lv_sub hl [] rfl) hG h
            · have h := ite_t c20 h
              refine lv_bipush (v := (6 : Int32)) hx hb dX6_judge_56 (by decide) ?_
              cases h
              exact gx_iret hx hb hr hlocks hG dX6_judge_58
          · have h := ite_t c15 h
            refine lv_iconst (v := (5 : Int32)) hx hb dX6_judge_43 (by decide) ?_
            cases h
            exact gx_iret hx hb hr hlocks hG dX6_judge_44
        · have h := ite_t c12 h
          refine lv_iconst (v := (4 : Int32)) hx hb dX6_judge_34 (by decide) ?_
          cases h
          exact gx_iret hx hb hr hlocks hG dX6_judge_35
      · have h := ite_t c9 h
        refine lv_iconst (v := (3 : Int32)) hx hb dX6_judge_25 (by decide) ?_
        cases h
        exact gx_iret hx hb hr hlocks hG dX6_judge_26
    · have h := ite_t c6 h
      refine lv_iconst (v := (2 : Int32)) hx hb dX6_judge_16 (by decide) ?_
      cases h
      exact gx_iret hx hb hr hlocks hG dX6_judge_17
  · have h := ite_t c3 h
    refine lv_iconst (v := (1 : Int32)) hx hb dX6_judge_7 (by decide) ?_
    cases h
    exact gx_iret hx hb hr hlocks hG dX6_judge_8

set_option maxHeartbeats 4000000 in
set_option maxRecDepth 100000 in
theorem c_Td_firstBroken (l : Launch) (g : GC) (σ : St) (r : Int32) (w_broken : Int32) (w_judged : Int32) (w_rootCount : Int32) (w_total : Int64) (w_roots : Nat → Int32) (w_times : Nat → Int32) (w_k : Nat → Int64) (w_scaled : Nat → Int64) (w_t : Nat → Int64) (h : Td_firstBroken (σ.1 1802) (σ.1 1804) (σ.1 1800) (σ.1 1801) (σ.2.1 1803) (σ.2.2.1 29) (σ.2.2.1 30) (σ.2.2.1 35) (σ.2.2.1 36) (σ.2.2.2 31) (σ.2.2.2 33) (σ.2.2.2 32) = some (r, w_broken, w_judged, w_rootCount, w_total, w_roots, w_times, w_k, w_scaled, w_t)) : Cn l g yX6_firstBroken (Cond.code yX6_firstBroken cX6_firstBroken 1 (some .int) :: wG) 4 92 [.ref (g.2.1 28)] σ (some (.int r)) (mkS σ [(1802, w_broken), (1804, w_judged), (1801, w_rootCount)] [(1803, w_total)] [(35, w_roots), (36, w_times)] [(31, w_k), (33, w_scaled), (32, w_t)]) := by
  unfold Cn
  refine Met.ofW (cc := cX6_firstBroken) (maxL := 1) (ret := (some .int)) (by decide) rfl ?_
  intro p e s m args below meth c s₁ B hml hv
  obtain ⟨hargs, hP0, hK⟩ := hv
  have hx := B.exec
  have hb := B.bytes
  have hr := B.returns
  have hts : ∀ w ∈ wG, w.before args s = true := fun w h => atoms_spec (ws := (Cond.code yX6_firstBroken cX6_firstBroken 1 (some .int) :: wG)) B.pre w (List.mem_cons_of_mem _ h)
  have hown : s.vm.findClass RX6 = some m.cls := findClass_of_methodNamed B.named
  have hlocks := B.notSynchronized
  have hS9 : CallFix p m c cX6_firstBroken 1 s args wG RX6 := ⟨hx, hb, hml, hown, hts⟩
  have hw0 := hts _ mw_1_175
  have hw1 := hts _ mw_1_178
  have hf9 : entryFrame m args 1 = _ := (congrArg (fun a => entryFrame m a 1) hargs).trans (lg_entry_eq m [.ref (g.2.1 28)] 1)
  show Wg p l e 4 92 s m args below meth c g (some (.int r)) (mkS σ [(1802, w_broken), (1804, w_judged), (1801, w_rootCount)] [(1803, w_total)] [(35, w_roots), (36, w_times)] [(31, w_k), (33, w_scaled), (32, w_t)]) s.heap [] (entryFrame m args 1)
  rw [hf9]
  have hl := lv_entry ([.ref (g.2.1 28)]) (n := 1) (Nat.le_of_ble_eq_true rfl)
  generalize (lg_sl ([.ref (g.2.1 28)]) ++ List.replicate (1 - (lg_sl ([.ref (g.2.1 28)])).length) Slot.unset).toArray = ls at hl ⊢
  have hl : lv_has ls 1 [(0, .ref (g.2.1 28))] := hl
  have hG : GW g s σ s.heap [] := ⟨hP0, va_S.rf⟩
  have hG : GW g s (mkS σ [(1802, (σ.1 1802)), (1804, (σ.1 1804)), (1801, (σ.1 1801))] [(1803, (σ.2.1 1803))] [(35, (σ.2.2.1 35)), (36, (σ.2.2.1 36))] [(31, (σ.2.2.2 31)), (33, (σ.2.2.2 33)), (32, (σ.2.2.2 32))]) s.heap [] := GW_self [1802, 1804, 1801] [1803] [35, 36] [31, 33, 32] hG
  unfold Td_firstBroken at h
  have n20 : ∀ (v_broken : Int32) (v_judged : Int32) (v_rootCount : Int32) (v_total : Int64) (v_roots : Nat → Int32) (v_times : Nat → Int32) (v_k : Nat → Int64) (v_scaled : Nat → Int64) (v_t : Nat → Int64) (H : Heap) (locs : List Loc) (ls : Array Slot), lv_has ls 1 [(0, .ref (g.2.1 28))] → GW g s (mkS σ [(1802, v_broken), (1804, v_judged), (1801, v_rootCount)] [(1803, v_total)] [(35, v_roots), (36, v_times)] [(31, v_k), (33, v_scaled), (32, v_t)]) H locs → Td_firstBroken_n20 v_broken v_judged v_rootCount v_total v_roots v_times v_k v_scaled v_t = some (r, w_broken, w_judged, w_rootCount, w_total, w_roots, w_times, w_k, w_scaled, w_t) → Wg p l e 4 92 s m args below meth c g (some (.int r)) (mkS σ [(1802, w_broken), (1804, w_judged), (1801, w_rootCount)] [(1803, w_total)] [(35, w_roots), (36, w_times)] [(31, w_k), (33, w_scaled), (32, w_t)]) H locs (F0 m 20 ls []) := by
    intro v_broken v_judged v_rootCount v_total v_roots v_times v_k v_scaled v_t H locs ls hl hG h
    unfold Td_firstBroken_n20 at h
    refine lv_aload_n hx hb dX6_firstBroken_20 rfl (lv_at hl 0 rfl) ?_
    refine gx_get (v := .int v_broken) (C := RX6) (T := TX6) (N := 13) hx hb hts mc_X6 hown hK hG (ga_28 g _) rfl 10 (by decide) hw0 rfl rfl dX6_firstBroken_21 ?_
    cases h
    exact gx_iret hx hb hr hlocks hG dX6_firstBroken_24
  refine lv_aload_n hx hb dX6_firstBroken_0 rfl (lv_at hl 0 rfl) ?_
  refine gx_get (v := .int (σ.1 1804)) (C := RX6) (T := TX6) (N := 13) hx hb hts mc_X6 hown hK hG (ga_28 g _) rfl 12 (by decide) hw1 rfl rfl dX6_firstBroken_1 ?_
  refine lv_if_ne (tgt := 20) hx hb dX6_firstBroken_4 (by decide) (fun c1 => ?_) (fun c1 => ?_)
  · have h := ite_f c1 h
    exact n20 (σ.1 1802) (σ.1 1804) (σ.1 1801) (σ.2.1 1803) (σ.2.2.1 35) (σ.2.2.1 36) (σ.2.2.2 31) (σ.2.2.2 33) (σ.2.2.2 32) _ _ _ (lv_sub hl [0] rfl) hG h
  · have h := ite_t c1 h
    refine lv_aload_n hx hb dX6_firstBroken_7 rfl (lv_at hl 0 rfl) ?_
    refine lv_aload_n hx hb dX6_firstBroken_8 rfl (lv_at hl 0 rfl) ?_
    obtain ⟨z2, hc3, h⟩ := bnd_some h
    refine gx_cV (σ' := (mkS σ [(1802, (σ.1 1802)), (1804, (σ.1 1804)), (1801, z2.2.1)] [(1803, z2.2.2.1)] [(35, z2.2.2.2.1), (36, z2.2.2.2.2.1)] [(31, z2.2.2.2.2.2.1), (33, z2.2.2.2.2.2.2.1), (32, z2.2.2.2.2.2.2.2)])) (r := (some (.int z2.1))) (rest := [.ref (g.2.1 28)]) (As := []) hS9 (c_Td_judge l g (mkS σ [(1802, (σ.1 1802)), (1804, (σ.1 1804)), (1801, (σ.1 1801))] [(1803, (σ.2.1 1803))] [(35, (σ.2.2.1 35)), (36, (σ.2.2.1 36))] [(31, (σ.2.2.2 31)), (33, (σ.2.2.2 33)), (32, (σ.2.2.2 32))]) z2.1 z2.2.1 z2.2.2.1 z2.2.2.2.1 z2.2.2.2.2.1 z2.2.2.2.2.2.1 z2.2.2.2.2.2.2.1 z2.2.2.2.2.2.2.2 hc3) (mk_mk rfl rfl rfl rfl) (cwV 0 hts (gz_V mw_3_144 mw_3_146 ms_1_12 mw_1_7 mw_3_147) rfl rfl rfl hdV_X6_judge ⟨Nat.le_of_ble_eq_true rfl, Nat.le_of_ble_eq_true rfl⟩) hK hG (ga_28 g _) rfl rfl rfl hl.1 rfl (Nat.le_of_ble_eq_true rfl) dX6_firstBroken_9 (fun H locs hG => ?_)
    refine W.eq (g2 := F0 m 12 ls [.int z2.1, .ref (g.2.1 28)]) rfl ?_
    refine gx_put (σ' := (mkS σ [(1802, z2.1), (1804, (σ.1 1804)), (1801, z2.2.1)] [(1803, z2.2.2.1)] [(35, z2.2.2.2.1), (36, z2.2.2.2.2.1)] [(31, z2.2.2.2.2.2.1), (33, z2.2.2.2.2.2.2.1), (32, z2.2.2.2.2.2.2.2)])) (C := RX6) (T := TX6) (N := 13) hx hb hts mc_X6 tyX6 tyX6_ok nmX6 hown hK hG (ga_28 g _) rfl 10 (by decide) hw0 rfl rfl rfl rfl (Nat.le_of_ble_eq_true rfl) ((gf_1802 g _ _).trans (congrArg (g_cells g) (mk_a 0 rfl rfl))) dX6_firstBroken_12 (fun H locs hG => ?_)
    refine lv_aload_n hx hb dX6_firstBroken_15 rfl (lv_at hl 0 rfl) ?_
    refine lv_iconst (v := (1 : Int32)) hx hb dX6_firstBroken_16 (by decide) ?_
    refine gx_put (σ' := (mkS σ [(1802, z2.1), (1804, (1 : Int32)), (1801, z2.2.1)] [(1803, z2.2.2.1)] [(35, z2.2.2.2.1), (36, z2.2.2.2.2.1)] [(31, z2.2.2.2.2.2.1), (33, z2.2.2.2.2.2.2.1), (32, z2.2.2.2.2.2.2.2)])) (C := RX6) (T := TX6) (N := 13) hx hb hts mc_X6 tyX6 tyX6_ok nmX6 hown hK hG (ga_28 g _) rfl 12 (by decide) hw1 rfl rfl (isb_n (by decide)) (isb_f (by decide)) (Nat.le_of_ble_eq_true rfl) ((gf_1804 g _ _).trans (congrArg (g_cells g) (mk_a 1 rfl rfl))) dX6_firstBroken_17 (fun H locs hG => ?_)
    exact n20 z2.1 (1 : Int32) z2.2.1 z2.2.2.1 z2.2.2.2.1 z2.2.2.2.2.1 z2.2.2.2.2.2.1 z2.2.2.2.2.2.2.1 z2.2.2.2.2.2.2.2 _ _ _ (lv_sub hl [0] rfl) hG h

set_option maxHeartbeats 4000000 in
set_option maxRecDepth 100000 in
theorem c_LN_can (l : Launch) (g : GC) (σ : St) (r : Int32) (w_told_broken : Int32) (w_told_judged : Int32) (w_told_rootCount : Int32) (w_told_total : Int64) (w_told_roots : Nat → Int32) (w_told_times : Nat → Int32) (w_told_k : Nat → Int64) (w_told_scaled : Nat → Int64) (w_told_t : Nat → Int64) (h : LN_can (σ.1 1802) (σ.1 1804) (σ.1 1800) (σ.1 1801) (σ.2.1 1803) (σ.2.2.1 29) (σ.2.2.1 30) (σ.2.2.1 35) (σ.2.2.1 36) (σ.2.2.2 31) (σ.2.2.2 33) (σ.2.2.2 32) = some (r, w_told_broken, w_told_judged, w_told_rootCount, w_told_total, w_told_roots, w_told_times, w_told_k, w_told_scaled, w_told_t)) : Cn l g yX8_can (Cond.code yX8_can cX8_can 1 (some .int) :: wG) 5 112 [.ref (g.2.1 0)] σ (some (.int r)) (mkS σ [(1802, w_told_broken), (1804, w_told_judged), (1801, w_told_rootCount)] [(1803, w_told_total)] [(35, w_told_roots), (36, w_told_times)] [(31, w_told_k), (33, w_told_scaled), (32, w_told_t)]) := by
  unfold Cn
  refine Met.ofW (cc := cX8_can) (maxL := 1) (ret := (some .int)) (by decide) rfl ?_
  intro p e s m args below meth c s₁ B hml hv
  obtain ⟨hargs, hP0, hK⟩ := hv
  have hx := B.exec
  have hb := B.bytes
  have hr := B.returns
  have hts : ∀ w ∈ wG, w.before args s = true := fun w h => atoms_spec (ws := (Cond.code yX8_can cX8_can 1 (some .int) :: wG)) B.pre w (List.mem_cons_of_mem _ h)
  have hown : s.vm.findClass RX8 = some m.cls := findClass_of_methodNamed B.named
  have hlocks := B.notSynchronized
  have hS9 : CallFix p m c cX8_can 1 s args wG RX8 := ⟨hx, hb, hml, hown, hts⟩
  have hw0 := hts _ mw_2_46
  have hf9 : entryFrame m args 1 = _ := (congrArg (fun a => entryFrame m a 1) hargs).trans (lg_entry_eq m [.ref (g.2.1 0)] 1)
  show Wg p l e 5 112 s m args below meth c g (some (.int r)) (mkS σ [(1802, w_told_broken), (1804, w_told_judged), (1801, w_told_rootCount)] [(1803, w_told_total)] [(35, w_told_roots), (36, w_told_times)] [(31, w_told_k), (33, w_told_scaled), (32, w_told_t)]) s.heap [] (entryFrame m args 1)
  rw [hf9]
  have hl := lv_entry ([.ref (g.2.1 0)]) (n := 1) (Nat.le_of_ble_eq_true rfl)
  generalize (lg_sl ([.ref (g.2.1 0)]) ++ List.replicate (1 - (lg_sl ([.ref (g.2.1 0)])).length) Slot.unset).toArray = ls at hl ⊢
  have hl : lv_has ls 1 [(0, .ref (g.2.1 0))] := hl
  have hG : GW g s σ s.heap [] := ⟨hP0, va_S.rf⟩
  have hG : GW g s (mkS σ [(1802, (σ.1 1802)), (1804, (σ.1 1804)), (1801, (σ.1 1801))] [(1803, (σ.2.1 1803))] [(35, (σ.2.2.1 35)), (36, (σ.2.2.1 36))] [(31, (σ.2.2.2 31)), (33, (σ.2.2.2 33)), (32, (σ.2.2.2 32))]) s.heap [] := GW_self [1802, 1804, 1801] [1803] [35, 36] [31, 33, 32] hG
  unfold LN_can at h
  refine lv_aload_n hx hb dX8_can_0 rfl (lv_at hl 0 rfl) ?_
  refine gx_get (v := .ref (g.2.1 28)) (C := RX8) (T := TX8) (N := 13) hx hb hts mc_X8 hown hK hG (ga_0 g _) rfl 9 (by decide) hw0 rfl rfl dX8_can_1 ?_
  obtain ⟨z1, hc2, h⟩ := bnd_some h
  refine gx_cV (σ' := (mkS σ [(1802, z1.2.1), (1804, z1.2.2.1), (1801, z1.2.2.2.1)] [(1803, z1.2.2.2.2.1)] [(35, z1.2.2.2.2.2.1), (36, z1.2.2.2.2.2.2.1)] [(31, z1.2.2.2.2.2.2.2.1), (33, z1.2.2.2.2.2.2.2.2.1), (32, z1.2.2.2.2.2.2.2.2.2)])) (r := (some (.int z1.1))) (rest := []) (As := []) hS9 (c_Td_firstBroken l g (mkS σ [(1802, (σ.1 1802)), (1804, (σ.1 1804)), (1801, (σ.1 1801))] [(1803, (σ.2.1 1803))] [(35, (σ.2.2.1 35)), (36, (σ.2.2.1 36))] [(31, (σ.2.2.2 31)), (33, (σ.2.2.2 33)), (32, (σ.2.2.2 32))]) z1.1 z1.2.1 z1.2.2.1 z1.2.2.2.1 z1.2.2.2.2.1 z1.2.2.2.2.2.1 z1.2.2.2.2.2.2.1 z1.2.2.2.2.2.2.2.1 z1.2.2.2.2.2.2.2.2.1 z1.2.2.2.2.2.2.2.2.2 hc2) (mk_mk rfl rfl rfl rfl) (cwV 0 hts (gz_V mw_3_140 mw_3_141 mw_3_142 mw_1_7 mw_3_143) rfl rfl rfl hdV_X6_firstBroken ⟨Nat.le_of_ble_eq_true rfl, Nat.le_of_ble_eq_true rfl⟩) hK hG (ga_28 g _) rfl rfl rfl hl.1 rfl (Nat.le_of_ble_eq_true rfl) dX8_can_4 (fun H locs hG => ?_)
  refine W.eq (g2 := F0 m 7 ls [.int z1.1]) rfl ?_
  cases h
  exact gx_iret hx hb hr hlocks hG dX8_can_7

set_option maxHeartbeats 4000000 in
set_option maxRecDepth 100000 in
theorem c_LN_isSheet (l : Launch) (g : GC) (σ : St) (x0 : Int32) (r : Int32) (h : LN_isSheet x0 = some r) : Cn l g yX8_isSheet (Cond.code yX8_isSheet cX8_isSheet 1 (some .boolean) :: wG) 0 0 [.int x0] σ (some (.int r)) σ := by
  unfold Cn
  refine Met.ofW (cc := cX8_isSheet) (maxL := 1) (ret := (some .boolean)) (by decide) rfl ?_
  intro p e s m args below meth c s₁ B hml hv
  obtain ⟨hargs, hP0, hK⟩ := hv
  have hx := B.exec
  have hb := B.bytes
  have hr := B.returns
  have hts : ∀ w ∈ wG, w.before args s = true := fun w h => atoms_spec (ws := (Cond.code yX8_isSheet cX8_isSheet 1 (some .boolean) :: wG)) B.pre w (List.mem_cons_of_mem _ h)
  have hown : s.vm.findClass RX8 = some m.cls := findClass_of_methodNamed B.named
  have hlocks := B.notSynchronized
  have hf9 : entryFrame m args 1 = _ := (congrArg (fun a => entryFrame m a 1) hargs).trans (lg_entry_eq m [.int x0] 1)
  show Wg p l e 0 0 s m args below meth c g (some (.int r)) σ s.heap [] (entryFrame m args 1)
  rw [hf9]
  have hl := lv_entry ([.int x0]) (n := 1) (Nat.le_of_ble_eq_true rfl)
  generalize (lg_sl ([.int x0]) ++ List.replicate (1 - (lg_sl ([.int x0])).length) Slot.unset).toArray = ls at hl ⊢
  have hl : lv_has ls 1 [(0, .int x0)] := hl
  have hG : GW g s σ s.heap [] := ⟨hP0, va_S.rf⟩
  unfold LN_isSheet at h
  have n14 : ∀ (t0 : Int32) (H : Heap) (locs : List Loc) (ls : Array Slot), lv_has ls 1 [] → GW g s σ H locs → LN_isSheet_n14 t0 = some r → Wg p l e 0 0 s m args below meth c g (some (.int r)) σ H locs (F0 m 14 ls [.int t0]) := by
    intro t0 H locs ls hl hG h
    unfold LN_isSheet_n14 at h
    obtain ⟨hg1, h⟩ := gd_some h
    cases h
    exact gx_zret hx hb hr hlocks hg1 hG dX8_isSheet_14
  have n13 : ∀  (H : Heap) (locs : List Loc) (ls : Array Slot), lv_has ls 1 [] → GW g s σ H locs → LN_isSheet_n13 = some r → Wg p l e 0 0 s m args below meth c g (some (.int r)) σ H locs (F0 m 13 ls []) := by
    intro H locs ls hl hG h
    unfold LN_isSheet_n13 at h
    refine lv_iconst (v := (0 : Int32)) hx hb dX8_isSheet_13 (by decide) ?_
    exact n14 (0 : Int32) _ _ _ (lv_sub hl [] rfl) hG h
  refine lv_iload_n hx hb dX8_isSheet_0 rfl (lv_at hl 0 rfl) ?_
  refine lv_if_lt (tgt := 13) hx hb dX8_isSheet_1 (by decide) (fun c2 => ?_) (fun c2 => ?_)
  · have h := ite_t c2 h
    exact n13 _ _ _ (lv_sub hl [] rfl) hG h
  · have h := ite_f c2 h
    refine lv_iload_n hx hb dX8_isSheet_4 rfl (lv_at hl 0 rfl) ?_
    refine lv_iconst (v := (4 : Int32)) hx hb dX8_isSheet_5 (by decide) ?_
    refine lv_icmp_ge (tgt := 13) hx hb dX8_isSheet_6 (by decide) (fun c3 => ?_) (fun c3 => ?_)
    · have h := ite_t c3 h
      exact n13 _ _ _ (lv_sub hl [] rfl) hG h
    · have h := ite_f c3 h
      refine lv_iconst (v := (1 : Int32)) hx hb dX8_isSheet_9 (by decide) ?_
      refine lv_goto (tgt := 14) hx hb dX8_isSheet_10 (by decide) ?_
      exact n14 (1 : Int32) _ _ _ (lv_sub hl [] rfl) hG h

set_option maxHeartbeats 4000000 in
set_option maxRecDepth 100000 in
theorem c_Sh_has_2 (l : Launch) (g : GC) (σ : St) (x1 : Int32) (r : Int32) (h : Sh_has x1 (σ.1 131) = some r) : Cn l g yX5_has (Cond.code yX5_has cX5_has 2 (some .boolean) :: wG) 0 0 [.ref (g.2.1 2), .int x1] σ (some (.int r)) σ := by
  unfold Cn
  refine Met.ofW (cc := cX5_has) (maxL := 2) (ret := (some .boolean)) (by decide) rfl ?_
  intro p e s m args below meth c s₁ B hml hv
  obtain ⟨hargs, hP0, hK⟩ := hv
  have hx := B.exec
  have hb := B.bytes
  have hr := B.returns
  have hts : ∀ w ∈ wG, w.before args s = true := fun w h => atoms_spec (ws := (Cond.code yX5_has cX5_has 2 (some .boolean) :: wG)) B.pre w (List.mem_cons_of_mem _ h)
  have hown : s.vm.findClass RX5 = some m.cls := findClass_of_methodNamed B.named
  have hlocks := B.notSynchronized
  have hw0 := hts _ mw_1_35
  have hf9 : entryFrame m args 2 = _ := (congrArg (fun a => entryFrame m a 2) hargs).trans (lg_entry_eq m [.ref (g.2.1 2), .int x1] 2)
  show Wg p l e 0 0 s m args below meth c g (some (.int r)) σ s.heap [] (entryFrame m args 2)
  rw [hf9]
  have hl := lv_entry ([.ref (g.2.1 2), .int x1]) (n := 2) (Nat.le_of_ble_eq_true rfl)
  generalize (lg_sl ([.ref (g.2.1 2), .int x1]) ++ List.replicate (2 - (lg_sl ([.ref (g.2.1 2), .int x1])).length) Slot.unset).toArray = ls at hl ⊢
  have hl : lv_has ls 2 [(0, .ref (g.2.1 2)), (1, .int x1)] := hl
  have hG : GW g s σ s.heap [] := ⟨hP0, va_S.rf⟩
  unfold Sh_has at h
  have n17 : ∀ (t0 : Int32) (H : Heap) (locs : List Loc) (ls : Array Slot), lv_has ls 2 [] → GW g s σ H locs → Sh_has_n17 t0 = some r → Wg p l e 0 0 s m args below meth c g (some (.int r)) σ H locs (F0 m 17 ls [.int t0]) := by
    intro t0 H locs ls hl hG h
    unfold Sh_has_n17 at h
    obtain ⟨hg1, h⟩ := gd_some h
    cases h
    exact gx_zret hx hb hr hlocks hg1 hG dX5_has_17
  have n16 : ∀  (H : Heap) (locs : List Loc) (ls : Array Slot), lv_has ls 2 [] → GW g s σ H locs → Sh_has_n16 = some r → Wg p l e 0 0 s m args below meth c g (some (.int r)) σ H locs (F0 m 16 ls []) := by
    intro H locs ls hl hG h
    unfold Sh_has_n16 at h
    refine lv_iconst (v := (0 : Int32)) hx hb dX5_has_16 (by decide) ?_
    exact n17 (0 : Int32) _ _ _ (lv_sub hl [] rfl) hG h
  refine lv_iload_n hx hb dX5_has_0 rfl (lv_at hl 1 rfl) ?_
  refine lv_if_lt (tgt := 16) hx hb dX5_has_1 (by decide) (fun c2 => ?_) (fun c2 => ?_)
  · have h := ite_t c2 h
    exact n16 _ _ _ (lv_sub hl [] rfl) hG h
  · have h := ite_f c2 h
    refine lv_iload_n hx hb dX5_has_4 rfl (lv_at hl 1 rfl) ?_
    refine lv_aload_n hx hb dX5_has_5 rfl (lv_at hl 0 rfl) ?_
    refine gx_get (v := .int (σ.1 131)) (C := RX5) (T := TX5) (N := 4) hx hb hts mc_X5 hown hK hG (ga_2 g _) rfl 3 (by decide) hw0 rfl rfl dX5_has_6 ?_
    refine lv_icmp_ge (tgt := 16) hx hb dX5_has_9 (by decide) (fun c3 => ?_) (fun c3 => ?_)
    · have h := ite_t c3 h
      exact n16 _ _ _ (lv_sub hl [] rfl) hG h
    · have h := ite_f c3 h
      refine lv_iconst (v := (1 : Int32)) hx hb dX5_has_12 (by decide) ?_
      refine lv_goto (tgt := 17) hx hb dX5_has_13 (by decide) ?_
      exact n17 (1 : Int32) _ _ _ (lv_sub hl [] rfl) hG h

set_option maxHeartbeats 4000000 in
set_option maxRecDepth 100000 in
theorem c_Sh_write_2 (l : Launch) (g : GC) (σ : St) (x1 : Int32) (x2 : Int32) (w_cells : Nat → Int32) (h : Sh_write x1 x2 (σ.1 130) (σ.2.2.1 3) = some w_cells) : Cn l g yX5_write (Cond.code yX5_write cX5_write 3 none :: wG) 0 0 [.ref (g.2.1 2), .int x1, .int x2] σ none (mkS σ [] [] [(3, w_cells)] []) := by
  unfold Cn
  refine Met.ofW (cc := cX5_write) (maxL := 3) (ret := none) (by decide) rfl ?_
  intro p e s m args below meth c s₁ B hml hv
  obtain ⟨hargs, hP0, hK⟩ := hv
  have hx := B.exec
  have hb := B.bytes
  have hr := B.returns
  have hts : ∀ w ∈ wG, w.before args s = true := fun w h => atoms_spec (ws := (Cond.code yX5_write cX5_write 3 none :: wG)) B.pre w (List.mem_cons_of_mem _ h)
  have hown : s.vm.findClass RX5 = some m.cls := findClass_of_methodNamed B.named
  have hlocks := B.notSynchronized
  have hw0 := hts _ mw_1_34
  have hw1 := hts _ mw_1_31
  have hf9 : entryFrame m args 3 = _ := (congrArg (fun a => entryFrame m a 3) hargs).trans (lg_entry_eq m [.ref (g.2.1 2), .int x1, .int x2] 3)
  show Wg p l e 0 0 s m args below meth c g none (mkS σ [] [] [(3, w_cells)] []) s.heap [] (entryFrame m args 3)
  rw [hf9]
  have hl := lv_entry ([.ref (g.2.1 2), .int x1, .int x2]) (n := 3) (Nat.le_of_ble_eq_true rfl)
  generalize (lg_sl ([.ref (g.2.1 2), .int x1, .int x2]) ++ List.replicate (3 - (lg_sl ([.ref (g.2.1 2), .int x1, .int x2])).length) Slot.unset).toArray = ls at hl ⊢
  have hl : lv_has ls 3 [(0, .ref (g.2.1 2)), (1, .int x1), (2, .int x2)] := hl
  have hG : GW g s σ s.heap [] := ⟨hP0, va_S.rf⟩
  have hG : GW g s (mkS σ [] [] [(3, (σ.2.2.1 3))] []) s.heap [] := GW_self [] [] [3] [] hG
  unfold Sh_write at h
  have n44 : ∀ (v_cells : Nat → Int32) (H : Heap) (locs : List Loc) (ls : Array Slot), lv_has ls 3 [] → GW g s (mkS σ [] [] [(3, v_cells)] []) H locs → Sh_write_n44 v_cells = some w_cells → Wg p l e 0 0 s m args below meth c g none (mkS σ [] [] [(3, w_cells)] []) H locs (F0 m 44 ls []) := by
    intro v_cells H locs ls hl hG h
    unfold Sh_write_n44 at h
    cases h
    exact gx_vret hx hb hr hlocks hG dX5_write_44
  refine lv_aload_n hx hb dX5_write_0 rfl (lv_at hl 0 rfl) ?_
  refine gx_get (v := .int (σ.1 130)) (C := RX5) (T := TX5) (N := 4) hx hb hts mc_X5 hown hK hG (ga_2 g _) rfl 2 (by decide) hw0 rfl rfl dX5_write_1 ?_
  refine lv_if_ne (tgt := 18) hx hb dX5_write_4 (by decide) (fun c1 => ?_) (fun c1 => ?_)
  · have h := ite_f c1 h
    refine lv_aload_n hx hb dX5_write_18 rfl (lv_at hl 0 rfl) ?_
    refine gx_get (v := .int (σ.1 130)) (C := RX5) (T := TX5) (N := 4) hx hb hts mc_X5 hown hK hG (ga_2 g _) rfl 2 (by decide) hw0 rfl rfl dX5_write_19 ?_
    refine lv_iconst (v := (1 : Int32)) hx hb dX5_write_22 (by decide) ?_
    refine lv_icmp_ne (tgt := 37) hx hb dX5_write_23 (by decide) (fun c2 => ?_) (fun c2 => ?_)
    · have h := ite_f c2 h
      refine lv_aload_n hx hb dX5_write_37 rfl (lv_at hl 0 rfl) ?_
      refine gx_get (v := .ref (g.2.1 3)) (C := RX5) (T := TX5) (N := 4) hx hb hts mc_X5 hown hK hG (ga_2 g _) rfl 0 (by decide) hw1 rfl rfl dX5_write_38 ?_
      refine lv_iload_n hx hb dX5_write_41 rfl (lv_at hl 1 rfl) ?_
      refine lv_iload_n hx hb dX5_write_42 rfl (lv_at hl 2 rfl) ?_
      obtain ⟨hg3, h⟩ := gd_some h
      refine gx_iast (σ' := (mkS σ [] [] [(3, (upd (σ.2.2.1 3) (x1.toNatClampNeg) x2))] [])) (f := (σ.2.2.1 3)) hx hb hK hG (ga_3 g _) hg3 ((gs_3 g _ _).trans (congrArg (g_cells g) (mk_c 0 rfl rfl))) dX5_write_43 (fun H locs hG => ?_)
      exact n44 (upd (σ.2.2.1 3) (x1.toNatClampNeg) x2) _ _ _ (lv_sub hl [] rfl) hG h
    · have h := ite_t c2 h
      refine lv_aload_n hx hb dX5_write_26 rfl (lv_at hl 0 rfl) ?_
      refine gx_get (v := .ref (g.2.1 3)) (C := RX5) (T := TX5) (N := 4) hx hb hts mc_X5 hown hK hG (ga_2 g _) rfl 0 (by decide) hw1 rfl rfl dX5_write_27 ?_
      refine lv_iload_n hx hb dX5_write_30 rfl (lv_at hl 1 rfl) ?_
      refine lv_iload_n hx hb dX5_write_31 rfl (lv_at hl 2 rfl) ?_
      refine lv_i2s hx hb dX5_write_32 rfl ?_
      obtain ⟨hg4, h⟩ := gd_some h
      refine gx_iast (σ' := (mkS σ [] [] [(3, (upd (σ.2.2.1 3) (x1.toNatClampNeg) (x2.toInt16.toInt32)))] [])) (f := (σ.2.2.1 3)) hx hb hK hG (ga_3 g _) hg4 ((gs_3 g _ _).trans (congrArg (g_cells g) (mk_c 0 rfl rfl))) dX5_write_33 (fun H locs hG => ?_)
      refine lv_goto (tgt := 44) hx hb dX5_write_34 (by decide) ?_
      exact n44 (upd (σ.2.2.1 3) (x1.toNatClampNeg) (x2.toInt16.toInt32)) _ _ _ (lv_sub hl [] rfl) hG h
  · have h := ite_t c1 h
    refine lv_aload_n hx hb dX5_write_7 rfl (lv_at hl 0 rfl) ?_
    refine gx_get (v := .ref (g.2.1 3)) (C := RX5) (T := TX5) (N := 4) hx hb hts mc_X5 hown hK hG (ga_2 g _) rfl 0 (by decide) hw1 rfl rfl dX5_write_8 ?_
    refine lv_iload_n hx hb dX5_write_11 rfl (lv_at hl 1 rfl) ?_
    refine lv_iload_n hx hb dX5_write_12 rfl (lv_at hl 2 rfl) ?_
    refine lv_i2b hx hb dX5_write_13 rfl ?_
    obtain ⟨hg5, h⟩ := gd_some h
    refine gx_iast (σ' := (mkS σ [] [] [(3, (upd (σ.2.2.1 3) (x1.toNatClampNeg) (x2.toInt8.toInt32)))] [])) (f := (σ.2.2.1 3)) hx hb hK hG (ga_3 g _) hg5 ((gs_3 g _ _).trans (congrArg (g_cells g) (mk_c 0 rfl rfl))) dX5_write_14 (fun H locs hG => ?_)
    refine lv_goto (tgt := 44) hx hb dX5_write_15 (by decide) ?_
    exact n44 (upd (σ.2.2.1 3) (x1.toNatClampNeg) (x2.toInt8.toInt32)) _ _ _ (lv_sub hl [] rfl) hG h

set_option maxHeartbeats 4000000 in
set_option maxRecDepth 100000 in
theorem c_LN_cell_s0 (l : Launch) (g : GC) (σ : St) (x2 : Int32) (x3 : Int32) (r : Int32) (w_sheets0_cells : Nat → Int32) (h : LN_cell_s0 x2 x3 (σ.1 131) (σ.1 130) (σ.1 129) (σ.2.2.1 3) = some (r, w_sheets0_cells)) : Cn l g yX8_cell (Cond.code yX8_cell cX8_cell 4 (some .int) :: wG) 1 22 [.ref (g.2.1 0), .int (0 : Int32), .int x2, .int x3] σ (some (.int r)) (mkS σ [] [] [(3, w_sheets0_cells)] []) := by
  unfold Cn
  refine Met.ofW (cc := cX8_cell) (maxL := 4) (ret := (some .int)) (by decide) rfl ?_
  intro p e s m args below meth c s₁ B hml hv
  obtain ⟨hargs, hP0, hK⟩ := hv
  have hx := B.exec
  have hb := B.bytes
  have hr := B.returns
  have hts : ∀ w ∈ wG, w.before args s = true := fun w h => atoms_spec (ws := (Cond.code yX8_cell cX8_cell 4 (some .int) :: wG)) B.pre w (List.mem_cons_of_mem _ h)
  have hown : s.vm.findClass RX8 = some m.cls := findClass_of_methodNamed B.named
  have hlocks := B.notSynchronized
  have hS9 : CallFix p m c cX8_cell 4 s args wG RX8 := ⟨hx, hb, hml, hown, hts⟩
  have hw0 := hts _ mw_2_37
  have hw1 := hts _ mw_1_33
  have hf9 : entryFrame m args 4 = _ := (congrArg (fun a => entryFrame m a 4) hargs).trans (lg_entry_eq m [.ref (g.2.1 0), .int (0 : Int32), .int x2, .int x3] 4)
  show Wg p l e 1 22 s m args below meth c g (some (.int r)) (mkS σ [] [] [(3, w_sheets0_cells)] []) s.heap [] (entryFrame m args 4)
  rw [hf9]
  have hl := lv_entry ([.ref (g.2.1 0), .int (0 : Int32), .int x2, .int x3]) (n := 4) (Nat.le_of_ble_eq_true rfl)
  generalize (lg_sl ([.ref (g.2.1 0), .int (0 : Int32), .int x2, .int x3]) ++ List.replicate (4 - (lg_sl ([.ref (g.2.1 0), .int (0 : Int32), .int x2, .int x3])).length) Slot.unset).toArray = ls at hl ⊢
  have hl : lv_has ls 4 [(0, .ref (g.2.1 0)), (1, .int (0 : Int32)), (2, .int x2), (3, .int x3)] := hl
  have hG : GW g s σ s.heap [] := ⟨hP0, va_S.rf⟩
  have hG : GW g s (mkS σ [] [] [(3, (σ.2.2.1 3))] []) s.heap [] := GW_self [] [] [3] [] hG
  unfold LN_cell_s0 at h
  refine lv_iload_n hx hb dX8_cell_0 rfl (lv_at hl 1 rfl) ?_
  obtain ⟨z1, hc2, h⟩ := bnd_some h
  refine gx_cS (σ' := (mkS σ [] [] [(3, (σ.2.2.1 3))] [])) (r := (some (.int z1))) (rest := []) (As := [.int (0 : Int32)]) hS9 (c_LN_isSheet l g (mkS σ [] [] [(3, (σ.2.2.1 3))] []) (0 : Int32) z1 hc2) rfl (va_cwS 1 hts (gz_S mw_2_81 mw_2_82 mw_1_1 mw_2_83) rfl rfl rfl hdS_X8_isSheet ⟨Nat.le_of_ble_eq_true rfl, Nat.le_of_ble_eq_true rfl⟩) hK hG rfl hl.1 rfl (Nat.le_of_ble_eq_true rfl) dX8_cell_1 (fun H locs hG => ?_)
  refine W.eq (g2 := F0 m 4 ls [.int z1]) rfl ?_
  refine lv_if_ne (tgt := 9) hx hb dX8_cell_4 (by decide) (fun c3 => ?_) (fun c3 => ?_)
  · have h := ite_f c3 h
    refine lv_aload_n hx hb dX8_cell_9 rfl (lv_at hl 0 rfl) ?_
    refine gx_get (v := .ref (g.2.1 1)) (C := RX8) (T := TX8) (N := 13) hx hb hts mc_X8 hown hK hG (ga_0 g _) rfl 0 (by decide) hw0 rfl rfl dX8_cell_10 ?_
    refine lv_iload_n hx hb dX8_cell_13 rfl (lv_at hl 1 rfl) ?_
    refine gx_aald (v := .ref (g.2.1 2)) hx hb hK hG (ga_1 g _) (by decide) rfl dX8_cell_14 ?_
    refine gx_get (v := .int (σ.1 129)) (C := RX5) (T := TX5) (N := 4) hx hb hts mc_X5 hown hK hG (ga_2 g _) rfl 1 (by decide) hw1 rfl rfl dX8_cell_15 ?_
    refine lv_if_ne (tgt := 24) hx hb dX8_cell_18 (by decide) (fun c4 => ?_) (fun c4 => ?_)
    · have h := ite_f c4 h
      refine lv_aload_n hx hb dX8_cell_24 rfl (lv_at hl 0 rfl) ?_
      refine gx_get (v := .ref (g.2.1 1)) (C := RX8) (T := TX8) (N := 13) hx hb hts mc_X8 hown hK hG (ga_0 g _) rfl 0 (by decide) hw0 rfl rfl dX8_cell_25 ?_
      refine lv_iload_n hx hb dX8_cell_28 rfl (lv_at hl 1 rfl) ?_
      refine gx_aald (v := .ref (g.2.1 2)) hx hb hK hG (ga_1 g _) (by decide) rfl dX8_cell_29 ?_
      refine lv_iload_n hx hb dX8_cell_30 rfl (lv_at hl 2 rfl) ?_
      obtain ⟨z5, hc6, h⟩ := bnd_some h
      refine gx_cV (σ' := (mkS σ [] [] [(3, (σ.2.2.1 3))] [])) (r := (some (.int z5))) (rest := []) (As := [.int x2]) hS9 (c_Sh_has_2 l g (mkS σ [] [] [(3, (σ.2.2.1 3))] []) x2 z5 hc6) rfl (cwV 1 hts (gz_V mw_2_93 mw_2_94 mw_2_95 mw_1_2 mw_2_96) rfl rfl rfl hdV_X5_has ⟨Nat.le_of_ble_eq_true rfl, Nat.le_of_ble_eq_true rfl⟩) hK hG (ga_2 g _) rfl rfl rfl hl.1 rfl (Nat.le_of_ble_eq_true rfl) dX8_cell_31 (fun H locs hG => ?_)
      refine W.eq (g2 := F0 m 34 ls [.int z5]) rfl ?_
      refine lv_if_ne (tgt := 39) hx hb dX8_cell_34 (by decide) (fun c7 => ?_) (fun c7 => ?_)
      · have h := ite_f c7 h
        refine lv_aload_n hx hb dX8_cell_39 rfl (lv_at hl 0 rfl) ?_
        refine gx_get (v := .ref (g.2.1 1)) (C := RX8) (T := TX8) (N := 13) hx hb hts mc_X8 hown hK hG (ga_0 g _) rfl 0 (by decide) hw0 rfl rfl dX8_cell_40 ?_
        refine lv_iload_n hx hb dX8_cell_43 rfl (lv_at hl 1 rfl) ?_
        refine gx_aald (v := .ref (g.2.1 2)) hx hb hK hG (ga_1 g _) (by decide) rfl dX8_cell_44 ?_
        refine lv_iload_n hx hb dX8_cell_45 rfl (lv_at hl 2 rfl) ?_
        refine lv_iload_n hx hb dX8_cell_46 rfl (lv_at hl 3 rfl) ?_
        obtain ⟨z8, hc9, h⟩ := bnd_some h
        refine gx_cV (σ' := (mkS σ [] [] [(3, z8)] [])) (r := none) (rest := []) (As := [.int x2, .int x3]) hS9 (c_Sh_write_2 l g (mkS σ [] [] [(3, (σ.2.2.1 3))] []) x2 x3 z8 hc9) (mk_mk rfl rfl rfl rfl) (cwV 2 hts (gz_V mw_2_97 mw_2_98 mw_2_99 mw_1_2 mw_2_100) rfl rfl rfl hdV_X5_write ⟨Nat.le_of_ble_eq_true rfl, Nat.le_of_ble_eq_true rfl⟩) hK hG (ga_2 g _) rfl rfl rfl hl.1 rfl (Nat.le_of_ble_eq_true rfl) dX8_cell_47 (fun H locs hG => ?_)
        refine W.eq (g2 := F0 m 50 ls []) rfl ?_
        refine lv_iconst (v := (1 : Int32)) hx hb dX8_cell_50 (by decide) ?_
        cases h
        exact gx_iret hx hb hr hlocks hG dX8_cell_51
      · have h := ite_t c7 h
        refine lv_iconst (v := (-1 : Int32)) hx hb dX8_cell_37 (by decide) ?_
        cases h
        exact gx_iret hx hb hr hlocks hG dX8_cell_38
    · have h := ite_t c4 h
      refine lv_bipush (v := (-3 : Int32)) hx hb dX8_cell_21 (by decide) ?_
      cases h
      exact gx_iret hx hb hr hlocks hG dX8_cell_23
  · have h := ite_t c3 h
    refine lv_iconst (v := (-1 : Int32)) hx hb dX8_cell_7 (by decide) ?_
    cases h
    exact gx_iret hx hb hr hlocks hG dX8_cell_8

set_option maxHeartbeats 4000000 in
set_option maxRecDepth 100000 in
theorem c_Sh_has_4 (l : Launch) (g : GC) (σ : St) (x1 : Int32) (r : Int32) (h : Sh_has x1 (σ.1 259) = some r) : Cn l g yX5_has (Cond.code yX5_has cX5_has 2 (some .boolean) :: wG) 0 0 [.ref (g.2.1 4), .int x1] σ (some (.int r)) σ := by
  unfold Cn
  refine Met.ofW (cc := cX5_has) (maxL := 2) (ret := (some .boolean)) (by decide) rfl ?_
  intro p e s m args below meth c s₁ B hml hv
  obtain ⟨hargs, hP0, hK⟩ := hv
  have hx := B.exec
  have hb := B.bytes
  have hr := B.returns
  have hts : ∀ w ∈ wG, w.before args s = true := fun w h => atoms_spec (ws := (Cond.code yX5_has cX5_has 2 (some .boolean) :: wG)) B.pre w (List.mem_cons_of_mem _ h)
  have hown : s.vm.findClass RX5 = some m.cls := findClass_of_methodNamed B.named
  have hlocks := B.notSynchronized
  have hw0 := hts _ mw_1_35
  have hf9 : entryFrame m args 2 = _ := (congrArg (fun a => entryFrame m a 2) hargs).trans (lg_entry_eq m [.ref (g.2.1 4), .int x1] 2)
  show Wg p l e 0 0 s m args below meth c g (some (.int r)) σ s.heap [] (entryFrame m args 2)
  rw [hf9]
  have hl := lv_entry ([.ref (g.2.1 4), .int x1]) (n := 2) (Nat.le_of_ble_eq_true rfl)
  generalize (lg_sl ([.ref (g.2.1 4), .int x1]) ++ List.replicate (2 - (lg_sl ([.ref (g.2.1 4), .int x1])).length) Slot.unset).toArray = ls at hl ⊢
  have hl : lv_has ls 2 [(0, .ref (g.2.1 4)), (1, .int x1)] := hl
  have hG : GW g s σ s.heap [] := ⟨hP0, va_S.rf⟩
  unfold Sh_has at h
  have n17 : ∀ (t0 : Int32) (H : Heap) (locs : List Loc) (ls : Array Slot), lv_has ls 2 [] → GW g s σ H locs → Sh_has_n17 t0 = some r → Wg p l e 0 0 s m args below meth c g (some (.int r)) σ H locs (F0 m 17 ls [.int t0]) := by
    intro t0 H locs ls hl hG h
    unfold Sh_has_n17 at h
    obtain ⟨hg1, h⟩ := gd_some h
    cases h
    exact gx_zret hx hb hr hlocks hg1 hG dX5_has_17
  have n16 : ∀  (H : Heap) (locs : List Loc) (ls : Array Slot), lv_has ls 2 [] → GW g s σ H locs → Sh_has_n16 = some r → Wg p l e 0 0 s m args below meth c g (some (.int r)) σ H locs (F0 m 16 ls []) := by
    intro H locs ls hl hG h
    unfold Sh_has_n16 at h
    refine lv_iconst (v := (0 : Int32)) hx hb dX5_has_16 (by decide) ?_
    exact n17 (0 : Int32) _ _ _ (lv_sub hl [] rfl) hG h
  refine lv_iload_n hx hb dX5_has_0 rfl (lv_at hl 1 rfl) ?_
  refine lv_if_lt (tgt := 16) hx hb dX5_has_1 (by decide) (fun c2 => ?_) (fun c2 => ?_)
  · have h := ite_t c2 h
    exact n16 _ _ _ (lv_sub hl [] rfl) hG h
  · have h := ite_f c2 h
    refine lv_iload_n hx hb dX5_has_4 rfl (lv_at hl 1 rfl) ?_
    refine lv_aload_n hx hb dX5_has_5 rfl (lv_at hl 0 rfl) ?_
    refine gx_get (v := .int (σ.1 259)) (C := RX5) (T := TX5) (N := 4) hx hb hts mc_X5 hown hK hG (ga_4 g _) rfl 3 (by decide) hw0 rfl rfl dX5_has_6 ?_
    refine lv_icmp_ge (tgt := 16) hx hb dX5_has_9 (by decide) (fun c3 => ?_) (fun c3 => ?_)
    · have h := ite_t c3 h
      exact n16 _ _ _ (lv_sub hl [] rfl) hG h
    · have h := ite_f c3 h
      refine lv_iconst (v := (1 : Int32)) hx hb dX5_has_12 (by decide) ?_
      refine lv_goto (tgt := 17) hx hb dX5_has_13 (by decide) ?_
      exact n17 (1 : Int32) _ _ _ (lv_sub hl [] rfl) hG h

set_option maxHeartbeats 4000000 in
set_option maxRecDepth 100000 in
theorem c_Sh_write_4 (l : Launch) (g : GC) (σ : St) (x1 : Int32) (x2 : Int32) (w_cells : Nat → Int32) (h : Sh_write x1 x2 (σ.1 258) (σ.2.2.1 5) = some w_cells) : Cn l g yX5_write (Cond.code yX5_write cX5_write 3 none :: wG) 0 0 [.ref (g.2.1 4), .int x1, .int x2] σ none (mkS σ [] [] [(5, w_cells)] []) := by
  unfold Cn
  refine Met.ofW (cc := cX5_write) (maxL := 3) (ret := none) (by decide) rfl ?_
  intro p e s m args below meth c s₁ B hml hv
  obtain ⟨hargs, hP0, hK⟩ := hv
  have hx := B.exec
  have hb := B.bytes
  have hr := B.returns
  have hts : ∀ w ∈ wG, w.before args s = true := fun w h => atoms_spec (ws := (Cond.code yX5_write cX5_write 3 none :: wG)) B.pre w (List.mem_cons_of_mem _ h)
  have hown : s.vm.findClass RX5 = some m.cls := findClass_of_methodNamed B.named
  have hlocks := B.notSynchronized
  have hw0 := hts _ mw_1_34
  have hw1 := hts _ mw_1_31
  have hf9 : entryFrame m args 3 = _ := (congrArg (fun a => entryFrame m a 3) hargs).trans (lg_entry_eq m [.ref (g.2.1 4), .int x1, .int x2] 3)
  show Wg p l e 0 0 s m args below meth c g none (mkS σ [] [] [(5, w_cells)] []) s.heap [] (entryFrame m args 3)
  rw [hf9]
  have hl := lv_entry ([.ref (g.2.1 4), .int x1, .int x2]) (n := 3) (Nat.le_of_ble_eq_true rfl)
  generalize (lg_sl ([.ref (g.2.1 4), .int x1, .int x2]) ++ List.replicate (3 - (lg_sl ([.ref (g.2.1 4), .int x1, .int x2])).length) Slot.unset).toArray = ls at hl ⊢
  have hl : lv_has ls 3 [(0, .ref (g.2.1 4)), (1, .int x1), (2, .int x2)] := hl
  have hG : GW g s σ s.heap [] := ⟨hP0, va_S.rf⟩
  have hG : GW g s (mkS σ [] [] [(5, (σ.2.2.1 5))] []) s.heap [] := GW_self [] [] [5] [] hG
  unfold Sh_write at h
  have n44 : ∀ (v_cells : Nat → Int32) (H : Heap) (locs : List Loc) (ls : Array Slot), lv_has ls 3 [] → GW g s (mkS σ [] [] [(5, v_cells)] []) H locs → Sh_write_n44 v_cells = some w_cells → Wg p l e 0 0 s m args below meth c g none (mkS σ [] [] [(5, w_cells)] []) H locs (F0 m 44 ls []) := by
    intro v_cells H locs ls hl hG h
    unfold Sh_write_n44 at h
    cases h
    exact gx_vret hx hb hr hlocks hG dX5_write_44
  refine lv_aload_n hx hb dX5_write_0 rfl (lv_at hl 0 rfl) ?_
  refine gx_get (v := .int (σ.1 258)) (C := RX5) (T := TX5) (N := 4) hx hb hts mc_X5 hown hK hG (ga_4 g _) rfl 2 (by decide) hw0 rfl rfl dX5_write_1 ?_
  refine lv_if_ne (tgt := 18) hx hb dX5_write_4 (by decide) (fun c1 => ?_) (fun c1 => ?_)
  · have h := ite_f c1 h
    refine lv_aload_n hx hb dX5_write_18 rfl (lv_at hl 0 rfl) ?_
    refine gx_get (v := .int (σ.1 258)) (C := RX5) (T := TX5) (N := 4) hx hb hts mc_X5 hown hK hG (ga_4 g _) rfl 2 (by decide) hw0 rfl rfl dX5_write_19 ?_
    refine lv_iconst (v := (1 : Int32)) hx hb dX5_write_22 (by decide) ?_
    refine lv_icmp_ne (tgt := 37) hx hb dX5_write_23 (by decide) (fun c2 => ?_) (fun c2 => ?_)
    · have h := ite_f c2 h
      refine lv_aload_n hx hb dX5_write_37 rfl (lv_at hl 0 rfl) ?_
      refine gx_get (v := .ref (g.2.1 5)) (C := RX5) (T := TX5) (N := 4) hx hb hts mc_X5 hown hK hG (ga_4 g _) rfl 0 (by decide) hw1 rfl rfl dX5_write_38 ?_
      refine lv_iload_n hx hb dX5_write_41 rfl (lv_at hl 1 rfl) ?_
      refine lv_iload_n hx hb dX5_write_42 rfl (lv_at hl 2 rfl) ?_
      obtain ⟨hg3, h⟩ := gd_some h
      refine gx_iast (σ' := (mkS σ [] [] [(5, (upd (σ.2.2.1 5) (x1.toNatClampNeg) x2))] [])) (f := (σ.2.2.1 5)) hx hb hK hG (ga_5 g _) hg3 ((gs_5 g _ _).trans (congrArg (g_cells g) (mk_c 0 rfl rfl))) dX5_write_43 (fun H locs hG => ?_)
      exact n44 (upd (σ.2.2.1 5) (x1.toNatClampNeg) x2) _ _ _ (lv_sub hl [] rfl) hG h
    · have h := ite_t c2 h
      refine lv_aload_n hx hb dX5_write_26 rfl (lv_at hl 0 rfl) ?_
      refine gx_get (v := .ref (g.2.1 5)) (C := RX5) (T := TX5) (N := 4) hx hb hts mc_X5 hown hK hG (ga_4 g _) rfl 0 (by decide) hw1 rfl rfl dX5_write_27 ?_
      refine lv_iload_n hx hb dX5_write_30 rfl (lv_at hl 1 rfl) ?_
      refine lv_iload_n hx hb dX5_write_31 rfl (lv_at hl 2 rfl) ?_
      refine lv_i2s hx hb dX5_write_32 rfl ?_
      obtain ⟨hg4, h⟩ := gd_some h
      refine gx_iast (σ' := (mkS σ [] [] [(5, (upd (σ.2.2.1 5) (x1.toNatClampNeg) (x2.toInt16.toInt32)))] [])) (f := (σ.2.2.1 5)) hx hb hK hG (ga_5 g _) hg4 ((gs_5 g _ _).trans (congrArg (g_cells g) (mk_c 0 rfl rfl))) dX5_write_33 (fun H locs hG => ?_)
      refine lv_goto (tgt := 44) hx hb dX5_write_34 (by decide) ?_
      exact n44 (upd (σ.2.2.1 5) (x1.toNatClampNeg) (x2.toInt16.toInt32)) _ _ _ (lv_sub hl [] rfl) hG h
  · have h := ite_t c1 h
    refine lv_aload_n hx hb dX5_write_7 rfl (lv_at hl 0 rfl) ?_
    refine gx_get (v := .ref (g.2.1 5)) (C := RX5) (T := TX5) (N := 4) hx hb hts mc_X5 hown hK hG (ga_4 g _) rfl 0 (by decide) hw1 rfl rfl dX5_write_8 ?_
    refine lv_iload_n hx hb dX5_write_11 rfl (lv_at hl 1 rfl) ?_
    refine lv_iload_n hx hb dX5_write_12 rfl (lv_at hl 2 rfl) ?_
    refine lv_i2b hx hb dX5_write_13 rfl ?_
    obtain ⟨hg5, h⟩ := gd_some h
    refine gx_iast (σ' := (mkS σ [] [] [(5, (upd (σ.2.2.1 5) (x1.toNatClampNeg) (x2.toInt8.toInt32)))] [])) (f := (σ.2.2.1 5)) hx hb hK hG (ga_5 g _) hg5 ((gs_5 g _ _).trans (congrArg (g_cells g) (mk_c 0 rfl rfl))) dX5_write_14 (fun H locs hG => ?_)
    refine lv_goto (tgt := 44) hx hb dX5_write_15 (by decide) ?_
    exact n44 (upd (σ.2.2.1 5) (x1.toNatClampNeg) (x2.toInt8.toInt32)) _ _ _ (lv_sub hl [] rfl) hG h

set_option maxHeartbeats 4000000 in
set_option maxRecDepth 100000 in
theorem c_LN_cell_s1 (l : Launch) (g : GC) (σ : St) (x2 : Int32) (x3 : Int32) (r : Int32) (w_sheets1_cells : Nat → Int32) (h : LN_cell_s1 x2 x3 (σ.1 259) (σ.1 258) (σ.1 257) (σ.2.2.1 5) = some (r, w_sheets1_cells)) : Cn l g yX8_cell (Cond.code yX8_cell cX8_cell 4 (some .int) :: wG) 1 22 [.ref (g.2.1 0), .int (1 : Int32), .int x2, .int x3] σ (some (.int r)) (mkS σ [] [] [(5, w_sheets1_cells)] []) := by
  unfold Cn
  refine Met.ofW (cc := cX8_cell) (maxL := 4) (ret := (some .int)) (by decide) rfl ?_
  intro p e s m args below meth c s₁ B hml hv
  obtain ⟨hargs, hP0, hK⟩ := hv
  have hx := B.exec
  have hb := B.bytes
  have hr := B.returns
  have hts : ∀ w ∈ wG, w.before args s = true := fun w h => atoms_spec (ws := (Cond.code yX8_cell cX8_cell 4 (some .int) :: wG)) B.pre w (List.mem_cons_of_mem _ h)
  have hown : s.vm.findClass RX8 = some m.cls := findClass_of_methodNamed B.named
  have hlocks := B.notSynchronized
  have hS9 : CallFix p m c cX8_cell 4 s args wG RX8 := ⟨hx, hb, hml, hown, hts⟩
  have hw0 := hts _ mw_2_37
  have hw1 := hts _ mw_1_33
  have hf9 : entryFrame m args 4 = _ := (congrArg (fun a => entryFrame m a 4) hargs).trans (lg_entry_eq m [.ref (g.2.1 0), .int (1 : Int32), .int x2, .int x3] 4)
  show Wg p l e 1 22 s m args below meth c g (some (.int r)) (mkS σ [] [] [(5, w_sheets1_cells)] []) s.heap [] (entryFrame m args 4)
  rw [hf9]
  have hl := lv_entry ([.ref (g.2.1 0), .int (1 : Int32), .int x2, .int x3]) (n := 4) (Nat.le_of_ble_eq_true rfl)
  generalize (lg_sl ([.ref (g.2.1 0), .int (1 : Int32), .int x2, .int x3]) ++ List.replicate (4 - (lg_sl ([.ref (g.2.1 0), .int (1 : Int32), .int x2, .int x3])).length) Slot.unset).toArray = ls at hl ⊢
  have hl : lv_has ls 4 [(0, .ref (g.2.1 0)), (1, .int (1 : Int32)), (2, .int x2), (3, .int x3)] := hl
  have hG : GW g s σ s.heap [] := ⟨hP0, va_S.rf⟩
  have hG : GW g s (mkS σ [] [] [(5, (σ.2.2.1 5))] []) s.heap [] := GW_self [] [] [5] [] hG
  unfold LN_cell_s1 at h
  refine lv_iload_n hx hb dX8_cell_0 rfl (lv_at hl 1 rfl) ?_
  obtain ⟨z1, hc2, h⟩ := bnd_some h
  refine gx_cS (σ' := (mkS σ [] [] [(5, (σ.2.2.1 5))] [])) (r := (some (.int z1))) (rest := []) (As := [.int (1 : Int32)]) hS9 (c_LN_isSheet l g (mkS σ [] [] [(5, (σ.2.2.1 5))] []) (1 : Int32) z1 hc2) rfl (va_cwS 1 hts (gz_S mw_2_81 mw_2_82 mw_1_1 mw_2_83) rfl rfl rfl hdS_X8_isSheet ⟨Nat.le_of_ble_eq_true rfl, Nat.le_of_ble_eq_true rfl⟩) hK hG rfl hl.1 rfl (Nat.le_of_ble_eq_true rfl) dX8_cell_1 (fun H locs hG => ?_)
  refine W.eq (g2 := F0 m 4 ls [.int z1]) rfl ?_
  refine lv_if_ne (tgt := 9) hx hb dX8_cell_4 (by decide) (fun c3 => ?_) (fun c3 => ?_)
  · have h := ite_f c3 h
    refine lv_aload_n hx hb dX8_cell_9 rfl (lv_at hl 0 rfl) ?_
    refine gx_get (v := .ref (g.2.1 1)) (C := RX8) (T := TX8) (N := 13) hx hb hts mc_X8 hown hK hG (ga_0 g _) rfl 0 (by decide) hw0 rfl rfl dX8_cell_10 ?_
    refine lv_iload_n hx hb dX8_cell_13 rfl (lv_at hl 1 rfl) ?_
    refine gx_aald (v := .ref (g.2.1 4)) hx hb hK hG (ga_1 g _) (by decide) rfl dX8_cell_14 ?_
    refine gx_get (v := .int (σ.1 257)) (C := RX5) (T := TX5) (N := 4) hx hb hts mc_X5 hown hK hG (ga_4 g _) rfl 1 (by decide) hw1 rfl rfl dX8_cell_15 ?_
    refine lv_if_ne (tgt := 24) hx hb dX8_cell_18 (by decide) (fun c4 => ?_) (fun c4 => ?_)
    · have h := ite_f c4 h
      refine lv_aload_n hx hb dX8_cell_24 rfl (lv_at hl 0 rfl) ?_
      refine gx_get (v := .ref (g.2.1 1)) (C := RX8) (T := TX8) (N := 13) hx hb hts mc_X8 hown hK hG (ga_0 g _) rfl 0 (by decide) hw0 rfl rfl dX8_cell_25 ?_
      refine lv_iload_n hx hb dX8_cell_28 rfl (lv_at hl 1 rfl) ?_
      refine gx_aald (v := .ref (g.2.1 4)) hx hb hK hG (ga_1 g _) (by decide) rfl dX8_cell_29 ?_
      refine lv_iload_n hx hb dX8_cell_30 rfl (lv_at hl 2 rfl) ?_
      obtain ⟨z5, hc6, h⟩ := bnd_some h
      refine gx_cV (σ' := (mkS σ [] [] [(5, (σ.2.2.1 5))] [])) (r := (some (.int z5))) (rest := []) (As := [.int x2]) hS9 (c_Sh_has_4 l g (mkS σ [] [] [(5, (σ.2.2.1 5))] []) x2 z5 hc6) rfl (cwV 1 hts (gz_V mw_2_93 mw_2_94 mw_2_95 mw_1_2 mw_2_96) rfl rfl rfl hdV_X5_has ⟨Nat.le_of_ble_eq_true rfl, Nat.le_of_ble_eq_true rfl⟩) hK hG (ga_4 g _) rfl rfl rfl hl.1 rfl (Nat.le_of_ble_eq_true rfl) dX8_cell_31 (fun H locs hG => ?_)
      refine W.eq (g2 := F0 m 34 ls [.int z5]) rfl ?_
      refine lv_if_ne (tgt := 39) hx hb dX8_cell_34 (by decide) (fun c7 => ?_) (fun c7 => ?_)
      · have h := ite_f c7 h
        refine lv_aload_n hx hb dX8_cell_39 rfl (lv_at hl 0 rfl) ?_
        refine gx_get (v := .ref (g.2.1 1)) (C := RX8) (T := TX8) (N := 13) hx hb hts mc_X8 hown hK hG (ga_0 g _) rfl 0 (by decide) hw0 rfl rfl dX8_cell_40 ?_
        refine lv_iload_n hx hb dX8_cell_43 rfl (lv_at hl 1 rfl) ?_
        refine gx_aald (v := .ref (g.2.1 4)) hx hb hK hG (ga_1 g _) (by decide) rfl dX8_cell_44 ?_
        refine lv_iload_n hx hb dX8_cell_45 rfl (lv_at hl 2 rfl) ?_
        refine lv_iload_n hx hb dX8_cell_46 rfl (lv_at hl 3 rfl) ?_
        obtain ⟨z8, hc9, h⟩ := bnd_some h
        refine gx_cV (σ' := (mkS σ [] [] [(5, z8)] [])) (r := none) (rest := []) (As := [.int x2, .int x3]) hS9 (c_Sh_write_4 l g (mkS σ [] [] [(5, (σ.2.2.1 5))] []) x2 x3 z8 hc9) (mk_mk rfl rfl rfl rfl) (cwV 2 hts (gz_V mw_2_97 mw_2_98 mw_2_99 mw_1_2 mw_2_100) rfl rfl rfl hdV_X5_write ⟨Nat.le_of_ble_eq_true rfl, Nat.le_of_ble_eq_true rfl⟩) hK hG (ga_4 g _) rfl rfl rfl hl.1 rfl (Nat.le_of_ble_eq_true rfl) dX8_cell_47 (fun H locs hG => ?_)
        refine W.eq (g2 := F0 m 50 ls []) rfl ?_
        refine lv_iconst (v := (1 : Int32)) hx hb dX8_cell_50 (by decide) ?_
        cases h
        exact gx_iret hx hb hr hlocks hG dX8_cell_51
      · have h := ite_t c7 h
        refine lv_iconst (v := (-1 : Int32)) hx hb dX8_cell_37 (by decide) ?_
        cases h
        exact gx_iret hx hb hr hlocks hG dX8_cell_38
    · have h := ite_t c4 h
      refine lv_bipush (v := (-3 : Int32)) hx hb dX8_cell_21 (by decide) ?_
      cases h
      exact gx_iret hx hb hr hlocks hG dX8_cell_23
  · have h := ite_t c3 h
    refine lv_iconst (v := (-1 : Int32)) hx hb dX8_cell_7 (by decide) ?_
    cases h
    exact gx_iret hx hb hr hlocks hG dX8_cell_8

set_option maxHeartbeats 4000000 in
set_option maxRecDepth 100000 in
theorem c_Sh_has_6 (l : Launch) (g : GC) (σ : St) (x1 : Int32) (r : Int32) (h : Sh_has x1 (σ.1 387) = some r) : Cn l g yX5_has (Cond.code yX5_has cX5_has 2 (some .boolean) :: wG) 0 0 [.ref (g.2.1 6), .int x1] σ (some (.int r)) σ := by
  unfold Cn
  refine Met.ofW (cc := cX5_has) (maxL := 2) (ret := (some .boolean)) (by decide) rfl ?_
  intro p e s m args below meth c s₁ B hml hv
  obtain ⟨hargs, hP0, hK⟩ := hv
  have hx := B.exec
  have hb := B.bytes
  have hr := B.returns
  have hts : ∀ w ∈ wG, w.before args s = true := fun w h => atoms_spec (ws := (Cond.code yX5_has cX5_has 2 (some .boolean) :: wG)) B.pre w (List.mem_cons_of_mem _ h)
  have hown : s.vm.findClass RX5 = some m.cls := findClass_of_methodNamed B.named
  have hlocks := B.notSynchronized
  have hw0 := hts _ mw_1_35
  have hf9 : entryFrame m args 2 = _ := (congrArg (fun a => entryFrame m a 2) hargs).trans (lg_entry_eq m [.ref (g.2.1 6), .int x1] 2)
  show Wg p l e 0 0 s m args below meth c g (some (.int r)) σ s.heap [] (entryFrame m args 2)
  rw [hf9]
  have hl := lv_entry ([.ref (g.2.1 6), .int x1]) (n := 2) (Nat.le_of_ble_eq_true rfl)
  generalize (lg_sl ([.ref (g.2.1 6), .int x1]) ++ List.replicate (2 - (lg_sl ([.ref (g.2.1 6), .int x1])).length) Slot.unset).toArray = ls at hl ⊢
  have hl : lv_has ls 2 [(0, .ref (g.2.1 6)), (1, .int x1)] := hl
  have hG : GW g s σ s.heap [] := ⟨hP0, va_S.rf⟩
  unfold Sh_has at h
  have n17 : ∀ (t0 : Int32) (H : Heap) (locs : List Loc) (ls : Array Slot), lv_has ls 2 [] → GW g s σ H locs → Sh_has_n17 t0 = some r → Wg p l e 0 0 s m args below meth c g (some (.int r)) σ H locs (F0 m 17 ls [.int t0]) := by
    intro t0 H locs ls hl hG h
    unfold Sh_has_n17 at h
    obtain ⟨hg1, h⟩ := gd_some h
    cases h
    exact gx_zret hx hb hr hlocks hg1 hG dX5_has_17
  have n16 : ∀  (H : Heap) (locs : List Loc) (ls : Array Slot), lv_has ls 2 [] → GW g s σ H locs → Sh_has_n16 = some r → Wg p l e 0 0 s m args below meth c g (some (.int r)) σ H locs (F0 m 16 ls []) := by
    intro H locs ls hl hG h
    unfold Sh_has_n16 at h
    refine lv_iconst (v := (0 : Int32)) hx hb dX5_has_16 (by decide) ?_
    exact n17 (0 : Int32) _ _ _ (lv_sub hl [] rfl) hG h
  refine lv_iload_n hx hb dX5_has_0 rfl (lv_at hl 1 rfl) ?_
  refine lv_if_lt (tgt := 16) hx hb dX5_has_1 (by decide) (fun c2 => ?_) (fun c2 => ?_)
  · have h := ite_t c2 h
    exact n16 _ _ _ (lv_sub hl [] rfl) hG h
  · have h := ite_f c2 h
    refine lv_iload_n hx hb dX5_has_4 rfl (lv_at hl 1 rfl) ?_
    refine lv_aload_n hx hb dX5_has_5 rfl (lv_at hl 0 rfl) ?_
    refine gx_get (v := .int (σ.1 387)) (C := RX5) (T := TX5) (N := 4) hx hb hts mc_X5 hown hK hG (ga_6 g _) rfl 3 (by decide) hw0 rfl rfl dX5_has_6 ?_
    refine lv_icmp_ge (tgt := 16) hx hb dX5_has_9 (by decide) (fun c3 => ?_) (fun c3 => ?_)
    · have h := ite_t c3 h
      exact n16 _ _ _ (lv_sub hl [] rfl) hG h
    · have h := ite_f c3 h
      refine lv_iconst (v := (1 : Int32)) hx hb dX5_has_12 (by decide) ?_
      refine lv_goto (tgt := 17) hx hb dX5_has_13 (by decide) ?_
      exact n17 (1 : Int32) _ _ _ (lv_sub hl [] rfl) hG h

set_option maxHeartbeats 4000000 in
set_option maxRecDepth 100000 in
theorem c_Sh_write_6 (l : Launch) (g : GC) (σ : St) (x1 : Int32) (x2 : Int32) (w_cells : Nat → Int32) (h : Sh_write x1 x2 (σ.1 386) (σ.2.2.1 7) = some w_cells) : Cn l g yX5_write (Cond.code yX5_write cX5_write 3 none :: wG) 0 0 [.ref (g.2.1 6), .int x1, .int x2] σ none (mkS σ [] [] [(7, w_cells)] []) := by
  unfold Cn
  refine Met.ofW (cc := cX5_write) (maxL := 3) (ret := none) (by decide) rfl ?_
  intro p e s m args below meth c s₁ B hml hv
  obtain ⟨hargs, hP0, hK⟩ := hv
  have hx := B.exec
  have hb := B.bytes
  have hr := B.returns
  have hts : ∀ w ∈ wG, w.before args s = true := fun w h => atoms_spec (ws := (Cond.code yX5_write cX5_write 3 none :: wG)) B.pre w (List.mem_cons_of_mem _ h)
  have hown : s.vm.findClass RX5 = some m.cls := findClass_of_methodNamed B.named
  have hlocks := B.notSynchronized
  have hw0 := hts _ mw_1_34
  have hw1 := hts _ mw_1_31
  have hf9 : entryFrame m args 3 = _ := (congrArg (fun a => entryFrame m a 3) hargs).trans (lg_entry_eq m [.ref (g.2.1 6), .int x1, .int x2] 3)
  show Wg p l e 0 0 s m args below meth c g none (mkS σ [] [] [(7, w_cells)] []) s.heap [] (entryFrame m args 3)
  rw [hf9]
  have hl := lv_entry ([.ref (g.2.1 6), .int x1, .int x2]) (n := 3) (Nat.le_of_ble_eq_true rfl)
  generalize (lg_sl ([.ref (g.2.1 6), .int x1, .int x2]) ++ List.replicate (3 - (lg_sl ([.ref (g.2.1 6), .int x1, .int x2])).length) Slot.unset).toArray = ls at hl ⊢
  have hl : lv_has ls 3 [(0, .ref (g.2.1 6)), (1, .int x1), (2, .int x2)] := hl
  have hG : GW g s σ s.heap [] := ⟨hP0, va_S.rf⟩
  have hG : GW g s (mkS σ [] [] [(7, (σ.2.2.1 7))] []) s.heap [] := GW_self [] [] [7] [] hG
  unfold Sh_write at h
  have n44 : ∀ (v_cells : Nat → Int32) (H : Heap) (locs : List Loc) (ls : Array Slot), lv_has ls 3 [] → GW g s (mkS σ [] [] [(7, v_cells)] []) H locs → Sh_write_n44 v_cells = some w_cells → Wg p l e 0 0 s m args below meth c g none (mkS σ [] [] [(7, w_cells)] []) H locs (F0 m 44 ls []) := by
    intro v_cells H locs ls hl hG h
    unfold Sh_write_n44 at h
    cases h
    exact gx_vret hx hb hr hlocks hG dX5_write_44
  refine lv_aload_n hx hb dX5_write_0 rfl (lv_at hl 0 rfl) ?_
  refine gx_get (v := .int (σ.1 386)) (C := RX5) (T := TX5) (N := 4) hx hb hts mc_X5 hown hK hG (ga_6 g _) rfl 2 (by decide) hw0 rfl rfl dX5_write_1 ?_
  refine lv_if_ne (tgt := 18) hx hb dX5_write_4 (by decide) (fun c1 => ?_) (fun c1 => ?_)
  · have h := ite_f c1 h
    refine lv_aload_n hx hb dX5_write_18 rfl (lv_at hl 0 rfl) ?_
    refine gx_get (v := .int (σ.1 386)) (C := RX5) (T := TX5) (N := 4) hx hb hts mc_X5 hown hK hG (ga_6 g _) rfl 2 (by decide) hw0 rfl rfl dX5_write_19 ?_
    refine lv_iconst (v := (1 : Int32)) hx hb dX5_write_22 (by decide) ?_
    refine lv_icmp_ne (tgt := 37) hx hb dX5_write_23 (by decide) (fun c2 => ?_) (fun c2 => ?_)
    · have h := ite_f c2 h
      refine lv_aload_n hx hb dX5_write_37 rfl (lv_at hl 0 rfl) ?_
      refine gx_get (v := .ref (g.2.1 7)) (C := RX5) (T := TX5) (N := 4) hx hb hts mc_X5 hown hK hG (ga_6 g _) rfl 0 (by decide) hw1 rfl rfl dX5_write_38 ?_
      refine lv_iload_n hx hb dX5_write_41 rfl (lv_at hl 1 rfl) ?_
      refine lv_iload_n hx hb dX5_write_42 rfl (lv_at hl 2 rfl) ?_
      obtain ⟨hg3, h⟩ := gd_some h
      refine gx_iast (σ' := (mkS σ [] [] [(7, (upd (σ.2.2.1 7) (x1.toNatClampNeg) x2))] [])) (f := (σ.2.2.1 7)) hx hb hK hG (ga_7 g _) hg3 ((gs_7 g _ _).trans (congrArg (g_cells g) (mk_c 0 rfl rfl))) dX5_write_43 (fun H locs hG => ?_)
      exact n44 (upd (σ.2.2.1 7) (x1.toNatClampNeg) x2) _ _ _ (lv_sub hl [] rfl) hG h
    · have h := ite_t c2 h
      refine lv_aload_n hx hb dX5_write_26 rfl (lv_at hl 0 rfl) ?_
      refine gx_get (v := .ref (g.2.1 7)) (C := RX5) (T := TX5) (N := 4) hx hb hts mc_X5 hown hK hG (ga_6 g _) rfl 0 (by decide) hw1 rfl rfl dX5_write_27 ?_
      refine lv_iload_n hx hb dX5_write_30 rfl (lv_at hl 1 rfl) ?_
      refine lv_iload_n hx hb dX5_write_31 rfl (lv_at hl 2 rfl) ?_
      refine lv_i2s hx hb dX5_write_32 rfl ?_
      obtain ⟨hg4, h⟩ := gd_some h
      refine gx_iast (σ' := (mkS σ [] [] [(7, (upd (σ.2.2.1 7) (x1.toNatClampNeg) (x2.toInt16.toInt32)))] [])) (f := (σ.2.2.1 7)) hx hb hK hG (ga_7 g _) hg4 ((gs_7 g _ _).trans (congrArg (g_cells g) (mk_c 0 rfl rfl))) dX5_write_33 (fun H locs hG => ?_)
      refine lv_goto (tgt := 44) hx hb dX5_write_34 (by decide) ?_
      exact n44 (upd (σ.2.2.1 7) (x1.toNatClampNeg) (x2.toInt16.toInt32)) _ _ _ (lv_sub hl [] rfl) hG h
  · have h := ite_t c1 h
    refine lv_aload_n hx hb dX5_write_7 rfl (lv_at hl 0 rfl) ?_
    refine gx_get (v := .ref (g.2.1 7)) (C := RX5) (T := TX5) (N := 4) hx hb hts mc_X5 hown hK hG (ga_6 g _) rfl 0 (by decide) hw1 rfl rfl dX5_write_8 ?_
    refine lv_iload_n hx hb dX5_write_11 rfl (lv_at hl 1 rfl) ?_
    refine lv_iload_n hx hb dX5_write_12 rfl (lv_at hl 2 rfl) ?_
    refine lv_i2b hx hb dX5_write_13 rfl ?_
    obtain ⟨hg5, h⟩ := gd_some h
    refine gx_iast (σ' := (mkS σ [] [] [(7, (upd (σ.2.2.1 7) (x1.toNatClampNeg) (x2.toInt8.toInt32)))] [])) (f := (σ.2.2.1 7)) hx hb hK hG (ga_7 g _) hg5 ((gs_7 g _ _).trans (congrArg (g_cells g) (mk_c 0 rfl rfl))) dX5_write_14 (fun H locs hG => ?_)
    refine lv_goto (tgt := 44) hx hb dX5_write_15 (by decide) ?_
    exact n44 (upd (σ.2.2.1 7) (x1.toNatClampNeg) (x2.toInt8.toInt32)) _ _ _ (lv_sub hl [] rfl) hG h

set_option maxHeartbeats 4000000 in
set_option maxRecDepth 100000 in
theorem c_LN_cell_s2 (l : Launch) (g : GC) (σ : St) (x2 : Int32) (x3 : Int32) (r : Int32) (w_sheets2_cells : Nat → Int32) (h : LN_cell_s2 x2 x3 (σ.1 387) (σ.1 386) (σ.1 385) (σ.2.2.1 7) = some (r, w_sheets2_cells)) : Cn l g yX8_cell (Cond.code yX8_cell cX8_cell 4 (some .int) :: wG) 1 22 [.ref (g.2.1 0), .int (2 : Int32), .int x2, .int x3] σ (some (.int r)) (mkS σ [] [] [(7, w_sheets2_cells)] []) := by
  unfold Cn
  refine Met.ofW (cc := cX8_cell) (maxL := 4) (ret := (some .int)) (by decide) rfl ?_
  intro p e s m args below meth c s₁ B hml hv
  obtain ⟨hargs, hP0, hK⟩ := hv
  have hx := B.exec
  have hb := B.bytes
  have hr := B.returns
  have hts : ∀ w ∈ wG, w.before args s = true := fun w h => atoms_spec (ws := (Cond.code yX8_cell cX8_cell 4 (some .int) :: wG)) B.pre w (List.mem_cons_of_mem _ h)
  have hown : s.vm.findClass RX8 = some m.cls := findClass_of_methodNamed B.named
  have hlocks := B.notSynchronized
  have hS9 : CallFix p m c cX8_cell 4 s args wG RX8 := ⟨hx, hb, hml, hown, hts⟩
  have hw0 := hts _ mw_2_37
  have hw1 := hts _ mw_1_33
  have hf9 : entryFrame m args 4 = _ := (congrArg (fun a => entryFrame m a 4) hargs).trans (lg_entry_eq m [.ref (g.2.1 0), .int (2 : Int32), .int x2, .int x3] 4)
  show Wg p l e 1 22 s m args below meth c g (some (.int r)) (mkS σ [] [] [(7, w_sheets2_cells)] []) s.heap [] (entryFrame m args 4)
  rw [hf9]
  have hl := lv_entry ([.ref (g.2.1 0), .int (2 : Int32), .int x2, .int x3]) (n := 4) (Nat.le_of_ble_eq_true rfl)
  generalize (lg_sl ([.ref (g.2.1 0), .int (2 : Int32), .int x2, .int x3]) ++ List.replicate (4 - (lg_sl ([.ref (g.2.1 0), .int (2 : Int32), .int x2, .int x3])).length) Slot.unset).toArray = ls at hl ⊢
  have hl : lv_has ls 4 [(0, .ref (g.2.1 0)), (1, .int (2 : Int32)), (2, .int x2), (3, .int x3)] := hl
  have hG : GW g s σ s.heap [] := ⟨hP0, va_S.rf⟩
  have hG : GW g s (mkS σ [] [] [(7, (σ.2.2.1 7))] []) s.heap [] := GW_self [] [] [7] [] hG
  unfold LN_cell_s2 at h
  refine lv_iload_n hx hb dX8_cell_0 rfl (lv_at hl 1 rfl) ?_
  obtain ⟨z1, hc2, h⟩ := bnd_some h
  refine gx_cS (σ' := (mkS σ [] [] [(7, (σ.2.2.1 7))] [])) (r := (some (.int z1))) (rest := []) (As := [.int (2 : Int32)]) hS9 (c_LN_isSheet l g (mkS σ [] [] [(7, (σ.2.2.1 7))] []) (2 : Int32) z1 hc2) rfl (va_cwS 1 hts (gz_S mw_2_81 mw_2_82 mw_1_1 mw_2_83) rfl rfl rfl hdS_X8_isSheet ⟨Nat.le_of_ble_eq_true rfl, Nat.le_of_ble_eq_true rfl⟩) hK hG rfl hl.1 rfl (Nat.le_of_ble_eq_true rfl) dX8_cell_1 (fun H locs hG => ?_)
  refine W.eq (g2 := F0 m 4 ls [.int z1]) rfl ?_
  refine lv_if_ne (tgt := 9) hx hb dX8_cell_4 (by decide) (fun c3 => ?_) (fun c3 => ?_)
  · have h := ite_f c3 h
    refine lv_aload_n hx hb dX8_cell_9 rfl (lv_at hl 0 rfl) ?_
    refine gx_get (v := .ref (g.2.1 1)) (C := RX8) (T := TX8) (N := 13) hx hb hts mc_X8 hown hK hG (ga_0 g _) rfl 0 (by decide) hw0 rfl rfl dX8_cell_10 ?_
    refine lv_iload_n hx hb dX8_cell_13 rfl (lv_at hl 1 rfl) ?_
    refine gx_aald (v := .ref (g.2.1 6)) hx hb hK hG (ga_1 g _) (by decide) rfl dX8_cell_14 ?_
    refine gx_get (v := .int (σ.1 385)) (C := RX5) (T := TX5) (N := 4) hx hb hts mc_X5 hown hK hG (ga_6 g _) rfl 1 (by decide) hw1 rfl rfl dX8_cell_15 ?_
    refine lv_if_ne (tgt := 24) hx hb dX8_cell_18 (by decide) (fun c4 => ?_) (fun c4 => ?_)
    · have h := ite_f c4 h
      refine lv_aload_n hx hb dX8_cell_24 rfl (lv_at hl 0 rfl) ?_
      refine gx_get (v := .ref (g.2.1 1)) (C := RX8) (T := TX8) (N := 13) hx hb hts mc_X8 hown hK hG (ga_0 g _) rfl 0 (by decide) hw0 rfl rfl dX8_cell_25 ?_
      refine lv_iload_n hx hb dX8_cell_28 rfl (lv_at hl 1 rfl) ?_
      refine gx_aald (v := .ref (g.2.1 6)) hx hb hK hG (ga_1 g _) (by decide) rfl dX8_cell_29 ?_
      refine lv_iload_n hx hb dX8_cell_30 rfl (lv_at hl 2 rfl) ?_
      obtain ⟨z5, hc6, h⟩ := bnd_some h
      refine gx_cV (σ' := (mkS σ [] [] [(7, (σ.2.2.1 7))] [])) (r := (some (.int z5))) (rest := []) (As := [.int x2]) hS9 (c_Sh_has_6 l g (mkS σ [] [] [(7, (σ.2.2.1 7))] []) x2 z5 hc6) rfl (cwV 1 hts (gz_V mw_2_93 mw_2_94 mw_2_95 mw_1_2 mw_2_96) rfl rfl rfl hdV_X5_has ⟨Nat.le_of_ble_eq_true rfl, Nat.le_of_ble_eq_true rfl⟩) hK hG (ga_6 g _) rfl rfl rfl hl.1 rfl (Nat.le_of_ble_eq_true rfl) dX8_cell_31 (fun H locs hG => ?_)
      refine W.eq (g2 := F0 m 34 ls [.int z5]) rfl ?_
      refine lv_if_ne (tgt := 39) hx hb dX8_cell_34 (by decide) (fun c7 => ?_) (fun c7 => ?_)
      · have h := ite_f c7 h
        refine lv_aload_n hx hb dX8_cell_39 rfl (lv_at hl 0 rfl) ?_
        refine gx_get (v := .ref (g.2.1 1)) (C := RX8) (T := TX8) (N := 13) hx hb hts mc_X8 hown hK hG (ga_0 g _) rfl 0 (by decide) hw0 rfl rfl dX8_cell_40 ?_
        refine lv_iload_n hx hb dX8_cell_43 rfl (lv_at hl 1 rfl) ?_
        refine gx_aald (v := .ref (g.2.1 6)) hx hb hK hG (ga_1 g _) (by decide) rfl dX8_cell_44 ?_
        refine lv_iload_n hx hb dX8_cell_45 rfl (lv_at hl 2 rfl) ?_
        refine lv_iload_n hx hb dX8_cell_46 rfl (lv_at hl 3 rfl) ?_
        obtain ⟨z8, hc9, h⟩ := bnd_some h
        refine gx_cV (σ' := (mkS σ [] [] [(7, z8)] [])) (r := none) (rest := []) (As := [.int x2, .int x3]) hS9 (c_Sh_write_6 l g (mkS σ [] [] [(7, (σ.2.2.1 7))] []) x2 x3 z8 hc9) (mk_mk rfl rfl rfl rfl) (cwV 2 hts (gz_V mw_2_97 mw_2_98 mw_2_99 mw_1_2 mw_2_100) rfl rfl rfl hdV_X5_write ⟨Nat.le_of_ble_eq_true rfl, Nat.le_of_ble_eq_true rfl⟩) hK hG (ga_6 g _) rfl rfl rfl hl.1 rfl (Nat.le_of_ble_eq_true rfl) dX8_cell_47 (fun H locs hG => ?_)
        refine W.eq (g2 := F0 m 50 ls []) rfl ?_
        refine lv_iconst (v := (1 : Int32)) hx hb dX8_cell_50 (by decide) ?_
        cases h
        exact gx_iret hx hb hr hlocks hG dX8_cell_51
      · have h := ite_t c7 h
        refine lv_iconst (v := (-1 : Int32)) hx hb dX8_cell_37 (by decide) ?_
        cases h
        exact gx_iret hx hb hr hlocks hG dX8_cell_38
    · have h := ite_t c4 h
      refine lv_bipush (v := (-3 : Int32)) hx hb dX8_cell_21 (by decide) ?_
      cases h
      exact gx_iret hx hb hr hlocks hG dX8_cell_23
  · have h := ite_t c3 h
    refine lv_iconst (v := (-1 : Int32)) hx hb dX8_cell_7 (by decide) ?_
    cases h
    exact gx_iret hx hb hr hlocks hG dX8_cell_8

set_option maxHeartbeats 4000000 in
set_option maxRecDepth 100000 in
theorem c_Sh_has_8 (l : Launch) (g : GC) (σ : St) (x1 : Int32) (r : Int32) (h : Sh_has x1 (σ.1 515) = some r) : Cn l g yX5_has (Cond.code yX5_has cX5_has 2 (some .boolean) :: wG) 0 0 [.ref (g.2.1 8), .int x1] σ (some (.int r)) σ := by
  unfold Cn
  refine Met.ofW (cc := cX5_has) (maxL := 2) (ret := (some .boolean)) (by decide) rfl ?_
  intro p e s m args below meth c s₁ B hml hv
  obtain ⟨hargs, hP0, hK⟩ := hv
  have hx := B.exec
  have hb := B.bytes
  have hr := B.returns
  have hts : ∀ w ∈ wG, w.before args s = true := fun w h => atoms_spec (ws := (Cond.code yX5_has cX5_has 2 (some .boolean) :: wG)) B.pre w (List.mem_cons_of_mem _ h)
  have hown : s.vm.findClass RX5 = some m.cls := findClass_of_methodNamed B.named
  have hlocks := B.notSynchronized
  have hw0 := hts _ mw_1_35
  have hf9 : entryFrame m args 2 = _ := (congrArg (fun a => entryFrame m a 2) hargs).trans (lg_entry_eq m [.ref (g.2.1 8), .int x1] 2)
  show Wg p l e 0 0 s m args below meth c g (some (.int r)) σ s.heap [] (entryFrame m args 2)
  rw [hf9]
  have hl := lv_entry ([.ref (g.2.1 8), .int x1]) (n := 2) (Nat.le_of_ble_eq_true rfl)
  generalize (lg_sl ([.ref (g.2.1 8), .int x1]) ++ List.replicate (2 - (lg_sl ([.ref (g.2.1 8), .int x1])).length) Slot.unset).toArray = ls at hl ⊢
  have hl : lv_has ls 2 [(0, .ref (g.2.1 8)), (1, .int x1)] := hl
  have hG : GW g s σ s.heap [] := ⟨hP0, va_S.rf⟩
  unfold Sh_has at h
  have n17 : ∀ (t0 : Int32) (H : Heap) (locs : List Loc) (ls : Array Slot), lv_has ls 2 [] → GW g s σ H locs → Sh_has_n17 t0 = some r → Wg p l e 0 0 s m args below meth c g (some (.int r)) σ H locs (F0 m 17 ls [.int t0]) := by
    intro t0 H locs ls hl hG h
    unfold Sh_has_n17 at h
    obtain ⟨hg1, h⟩ := gd_some h
    cases h
    exact gx_zret hx hb hr hlocks hg1 hG dX5_has_17
  have n16 : ∀  (H : Heap) (locs : List Loc) (ls : Array Slot), lv_has ls 2 [] → GW g s σ H locs → Sh_has_n16 = some r → Wg p l e 0 0 s m args below meth c g (some (.int r)) σ H locs (F0 m 16 ls []) := by
    intro H locs ls hl hG h
    unfold Sh_has_n16 at h
    refine lv_iconst (v := (0 : Int32)) hx hb dX5_has_16 (by decide) ?_
    exact n17 (0 : Int32) _ _ _ (lv_sub hl [] rfl) hG h
  refine lv_iload_n hx hb dX5_has_0 rfl (lv_at hl 1 rfl) ?_
  refine lv_if_lt (tgt := 16) hx hb dX5_has_1 (by decide) (fun c2 => ?_) (fun c2 => ?_)
  · have h := ite_t c2 h
    exact n16 _ _ _ (lv_sub hl [] rfl) hG h
  · have h := ite_f c2 h
    refine lv_iload_n hx hb dX5_has_4 rfl (lv_at hl 1 rfl) ?_
    refine lv_aload_n hx hb dX5_has_5 rfl (lv_at hl 0 rfl) ?_
    refine gx_get (v := .int (σ.1 515)) (C := RX5) (T := TX5) (N := 4) hx hb hts mc_X5 hown hK hG (ga_8 g _) rfl 3 (by decide) hw0 rfl rfl dX5_has_6 ?_
    refine lv_icmp_ge (tgt := 16) hx hb dX5_has_9 (by decide) (fun c3 => ?_) (fun c3 => ?_)
    · have h := ite_t c3 h
      exact n16 _ _ _ (lv_sub hl [] rfl) hG h
    · have h := ite_f c3 h
      refine lv_iconst (v := (1 : Int32)) hx hb dX5_has_12 (by decide) ?_
      refine lv_goto (tgt := 17) hx hb dX5_has_13 (by decide) ?_
      exact n17 (1 : Int32) _ _ _ (lv_sub hl [] rfl) hG h

set_option maxHeartbeats 4000000 in
set_option maxRecDepth 100000 in
theorem c_Sh_write_8 (l : Launch) (g : GC) (σ : St) (x1 : Int32) (x2 : Int32) (w_cells : Nat → Int32) (h : Sh_write x1 x2 (σ.1 514) (σ.2.2.1 9) = some w_cells) : Cn l g yX5_write (Cond.code yX5_write cX5_write 3 none :: wG) 0 0 [.ref (g.2.1 8), .int x1, .int x2] σ none (mkS σ [] [] [(9, w_cells)] []) := by
  unfold Cn
  refine Met.ofW (cc := cX5_write) (maxL := 3) (ret := none) (by decide) rfl ?_
  intro p e s m args below meth c s₁ B hml hv
  obtain ⟨hargs, hP0, hK⟩ := hv
  have hx := B.exec
  have hb := B.bytes
  have hr := B.returns
  have hts : ∀ w ∈ wG, w.before args s = true := fun w h => atoms_spec (ws := (Cond.code yX5_write cX5_write 3 none :: wG)) B.pre w (List.mem_cons_of_mem _ h)
  have hown : s.vm.findClass RX5 = some m.cls := findClass_of_methodNamed B.named
  have hlocks := B.notSynchronized
  have hw0 := hts _ mw_1_34
  have hw1 := hts _ mw_1_31
  have hf9 : entryFrame m args 3 = _ := (congrArg (fun a => entryFrame m a 3) hargs).trans (lg_entry_eq m [.ref (g.2.1 8), .int x1, .int x2] 3)
  show Wg p l e 0 0 s m args below meth c g none (mkS σ [] [] [(9, w_cells)] []) s.heap [] (entryFrame m args 3)
  rw [hf9]
  have hl := lv_entry ([.ref (g.2.1 8), .int x1, .int x2]) (n := 3) (Nat.le_of_ble_eq_true rfl)
  generalize (lg_sl ([.ref (g.2.1 8), .int x1, .int x2]) ++ List.replicate (3 - (lg_sl ([.ref (g.2.1 8), .int x1, .int x2])).length) Slot.unset).toArray = ls at hl ⊢
  have hl : lv_has ls 3 [(0, .ref (g.2.1 8)), (1, .int x1), (2, .int x2)] := hl
  have hG : GW g s σ s.heap [] := ⟨hP0, va_S.rf⟩
  have hG : GW g s (mkS σ [] [] [(9, (σ.2.2.1 9))] []) s.heap [] := GW_self [] [] [9] [] hG
  unfold Sh_write at h
  have n44 : ∀ (v_cells : Nat → Int32) (H : Heap) (locs : List Loc) (ls : Array Slot), lv_has ls 3 [] → GW g s (mkS σ [] [] [(9, v_cells)] []) H locs → Sh_write_n44 v_cells = some w_cells → Wg p l e 0 0 s m args below meth c g none (mkS σ [] [] [(9, w_cells)] []) H locs (F0 m 44 ls []) := by
    intro v_cells H locs ls hl hG h
    unfold Sh_write_n44 at h
    cases h
    exact gx_vret hx hb hr hlocks hG dX5_write_44
  refine lv_aload_n hx hb dX5_write_0 rfl (lv_at hl 0 rfl) ?_
  refine gx_get (v := .int (σ.1 514)) (C := RX5) (T := TX5) (N := 4) hx hb hts mc_X5 hown hK hG (ga_8 g _) rfl 2 (by decide) hw0 rfl rfl dX5_write_1 ?_
  refine lv_if_ne (tgt := 18) hx hb dX5_write_4 (by decide) (fun c1 => ?_) (fun c1 => ?_)
  · have h := ite_f c1 h
    refine lv_aload_n hx hb dX5_write_18 rfl (lv_at hl 0 rfl) ?_
    refine gx_get (v := .int (σ.1 514)) (C := RX5) (T := TX5) (N := 4) hx hb hts mc_X5 hown hK hG (ga_8 g _) rfl 2 (by decide) hw0 rfl rfl dX5_write_19 ?_
    refine lv_iconst (v := (1 : Int32)) hx hb dX5_write_22 (by decide) ?_
    refine lv_icmp_ne (tgt := 37) hx hb dX5_write_23 (by decide) (fun c2 => ?_) (fun c2 => ?_)
    · have h := ite_f c2 h
      refine lv_aload_n hx hb dX5_write_37 rfl (lv_at hl 0 rfl) ?_
      refine gx_get (v := .ref (g.2.1 9)) (C := RX5) (T := TX5) (N := 4) hx hb hts mc_X5 hown hK hG (ga_8 g _) rfl 0 (by decide) hw1 rfl rfl dX5_write_38 ?_
      refine lv_iload_n hx hb dX5_write_41 rfl (lv_at hl 1 rfl) ?_
      refine lv_iload_n hx hb dX5_write_42 rfl (lv_at hl 2 rfl) ?_
      obtain ⟨hg3, h⟩ := gd_some h
      refine gx_iast (σ' := (mkS σ [] [] [(9, (upd (σ.2.2.1 9) (x1.toNatClampNeg) x2))] [])) (f := (σ.2.2.1 9)) hx hb hK hG (ga_9 g _) hg3 ((gs_9 g _ _).trans (congrArg (g_cells g) (mk_c 0 rfl rfl))) dX5_write_43 (fun H locs hG => ?_)
      exact n44 (upd (σ.2.2.1 9) (x1.toNatClampNeg) x2) _ _ _ (lv_sub hl [] rfl) hG h
    · have h := ite_t c2 h
      refine lv_aload_n hx hb dX5_write_26 rfl (lv_at hl 0 rfl) ?_
      refine gx_get (v := .ref (g.2.1 9)) (C := RX5) (T := TX5) (N := 4) hx hb hts mc_X5 hown hK hG (ga_8 g _) rfl 0 (by decide) hw1 rfl rfl dX5_write_27 ?_
      refine lv_iload_n hx hb dX5_write_30 rfl (lv_at hl 1 rfl) ?_
      refine lv_iload_n hx hb dX5_write_31 rfl (lv_at hl 2 rfl) ?_
      refine lv_i2s hx hb dX5_write_32 rfl ?_
      obtain ⟨hg4, h⟩ := gd_some h
      refine gx_iast (σ' := (mkS σ [] [] [(9, (upd (σ.2.2.1 9) (x1.toNatClampNeg) (x2.toInt16.toInt32)))] [])) (f := (σ.2.2.1 9)) hx hb hK hG (ga_9 g _) hg4 ((gs_9 g _ _).trans (congrArg (g_cells g) (mk_c 0 rfl rfl))) dX5_write_33 (fun H locs hG => ?_)
      refine lv_goto (tgt := 44) hx hb dX5_write_34 (by decide) ?_
      exact n44 (upd (σ.2.2.1 9) (x1.toNatClampNeg) (x2.toInt16.toInt32)) _ _ _ (lv_sub hl [] rfl) hG h
  · have h := ite_t c1 h
    refine lv_aload_n hx hb dX5_write_7 rfl (lv_at hl 0 rfl) ?_
    refine gx_get (v := .ref (g.2.1 9)) (C := RX5) (T := TX5) (N := 4) hx hb hts mc_X5 hown hK hG (ga_8 g _) rfl 0 (by decide) hw1 rfl rfl dX5_write_8 ?_
    refine lv_iload_n hx hb dX5_write_11 rfl (lv_at hl 1 rfl) ?_
    refine lv_iload_n hx hb dX5_write_12 rfl (lv_at hl 2 rfl) ?_
    refine lv_i2b hx hb dX5_write_13 rfl ?_
    obtain ⟨hg5, h⟩ := gd_some h
    refine gx_iast (σ' := (mkS σ [] [] [(9, (upd (σ.2.2.1 9) (x1.toNatClampNeg) (x2.toInt8.toInt32)))] [])) (f := (σ.2.2.1 9)) hx hb hK hG (ga_9 g _) hg5 ((gs_9 g _ _).trans (congrArg (g_cells g) (mk_c 0 rfl rfl))) dX5_write_14 (fun H locs hG => ?_)
    refine lv_goto (tgt := 44) hx hb dX5_write_15 (by decide) ?_
    exact n44 (upd (σ.2.2.1 9) (x1.toNatClampNeg) (x2.toInt8.toInt32)) _ _ _ (lv_sub hl [] rfl) hG h

set_option maxHeartbeats 4000000 in
set_option maxRecDepth 100000 in
theorem c_LN_cell_s3 (l : Launch) (g : GC) (σ : St) (x2 : Int32) (x3 : Int32) (r : Int32) (w_sheets3_cells : Nat → Int32) (h : LN_cell_s3 x2 x3 (σ.1 515) (σ.1 514) (σ.1 513) (σ.2.2.1 9) = some (r, w_sheets3_cells)) : Cn l g yX8_cell (Cond.code yX8_cell cX8_cell 4 (some .int) :: wG) 1 22 [.ref (g.2.1 0), .int (3 : Int32), .int x2, .int x3] σ (some (.int r)) (mkS σ [] [] [(9, w_sheets3_cells)] []) := by
  unfold Cn
  refine Met.ofW (cc := cX8_cell) (maxL := 4) (ret := (some .int)) (by decide) rfl ?_
  intro p e s m args below meth c s₁ B hml hv
  obtain ⟨hargs, hP0, hK⟩ := hv
  have hx := B.exec
  have hb := B.bytes
  have hr := B.returns
  have hts : ∀ w ∈ wG, w.before args s = true := fun w h => atoms_spec (ws := (Cond.code yX8_cell cX8_cell 4 (some .int) :: wG)) B.pre w (List.mem_cons_of_mem _ h)
  have hown : s.vm.findClass RX8 = some m.cls := findClass_of_methodNamed B.named
  have hlocks := B.notSynchronized
  have hS9 : CallFix p m c cX8_cell 4 s args wG RX8 := ⟨hx, hb, hml, hown, hts⟩
  have hw0 := hts _ mw_2_37
  have hw1 := hts _ mw_1_33
  have hf9 : entryFrame m args 4 = _ := (congrArg (fun a => entryFrame m a 4) hargs).trans (lg_entry_eq m [.ref (g.2.1 0), .int (3 : Int32), .int x2, .int x3] 4)
  show Wg p l e 1 22 s m args below meth c g (some (.int r)) (mkS σ [] [] [(9, w_sheets3_cells)] []) s.heap [] (entryFrame m args 4)
  rw [hf9]
  have hl := lv_entry ([.ref (g.2.1 0), .int (3 : Int32), .int x2, .int x3]) (n := 4) (Nat.le_of_ble_eq_true rfl)
  generalize (lg_sl ([.ref (g.2.1 0), .int (3 : Int32), .int x2, .int x3]) ++ List.replicate (4 - (lg_sl ([.ref (g.2.1 0), .int (3 : Int32), .int x2, .int x3])).length) Slot.unset).toArray = ls at hl ⊢
  have hl : lv_has ls 4 [(0, .ref (g.2.1 0)), (1, .int (3 : Int32)), (2, .int x2), (3, .int x3)] := hl
  have hG : GW g s σ s.heap [] := ⟨hP0, va_S.rf⟩
  have hG : GW g s (mkS σ [] [] [(9, (σ.2.2.1 9))] []) s.heap [] := GW_self [] [] [9] [] hG
  unfold LN_cell_s3 at h
  refine lv_iload_n hx hb dX8_cell_0 rfl (lv_at hl 1 rfl) ?_
  obtain ⟨z1, hc2, h⟩ := bnd_some h
  refine gx_cS (σ' := (mkS σ [] [] [(9, (σ.2.2.1 9))] [])) (r := (some (.int z1))) (rest := []) (As := [.int (3 : Int32)]) hS9 (c_LN_isSheet l g (mkS σ [] [] [(9, (σ.2.2.1 9))] []) (3 : Int32) z1 hc2) rfl (va_cwS 1 hts (gz_S mw_2_81 mw_2_82 mw_1_1 mw_2_83) rfl rfl rfl hdS_X8_isSheet ⟨Nat.le_of_ble_eq_true rfl, Nat.le_of_ble_eq_true rfl⟩) hK hG rfl hl.1 rfl (Nat.le_of_ble_eq_true rfl) dX8_cell_1 (fun H locs hG => ?_)
  refine W.eq (g2 := F0 m 4 ls [.int z1]) rfl ?_
  refine lv_if_ne (tgt := 9) hx hb dX8_cell_4 (by decide) (fun c3 => ?_) (fun c3 => ?_)
  · have h := ite_f c3 h
    refine lv_aload_n hx hb dX8_cell_9 rfl (lv_at hl 0 rfl) ?_
    refine gx_get (v := .ref (g.2.1 1)) (C := RX8) (T := TX8) (N := 13) hx hb hts mc_X8 hown hK hG (ga_0 g _) rfl 0 (by decide) hw0 rfl rfl dX8_cell_10 ?_
    refine lv_iload_n hx hb dX8_cell_13 rfl (lv_at hl 1 rfl) ?_
    refine gx_aald (v := .ref (g.2.1 8)) hx hb hK hG (ga_1 g _) (by decide) rfl dX8_cell_14 ?_
    refine gx_get (v := .int (σ.1 513)) (C := RX5) (T := TX5) (N := 4) hx hb hts mc_X5 hown hK hG (ga_8 g _) rfl 1 (by decide) hw1 rfl rfl dX8_cell_15 ?_
    refine lv_if_ne (tgt := 24) hx hb dX8_cell_18 (by decide) (fun c4 => ?_) (fun c4 => ?_)
    · have h := ite_f c4 h
      refine lv_aload_n hx hb dX8_cell_24 rfl (lv_at hl 0 rfl) ?_
      refine gx_get (v := .ref (g.2.1 1)) (C := RX8) (T := TX8) (N := 13) hx hb hts mc_X8 hown hK hG (ga_0 g _) rfl 0 (by decide) hw0 rfl rfl dX8_cell_25 ?_
      refine lv_iload_n hx hb dX8_cell_28 rfl (lv_at hl 1 rfl) ?_
      refine gx_aald (v := .ref (g.2.1 8)) hx hb hK hG (ga_1 g _) (by decide) rfl dX8_cell_29 ?_
      refine lv_iload_n hx hb dX8_cell_30 rfl (lv_at hl 2 rfl) ?_
      obtain ⟨z5, hc6, h⟩ := bnd_some h
      refine gx_cV (σ' := (mkS σ [] [] [(9, (σ.2.2.1 9))] [])) (r := (some (.int z5))) (rest := []) (As := [.int x2]) hS9 (c_Sh_has_8 l g (mkS σ [] [] [(9, (σ.2.2.1 9))] []) x2 z5 hc6) rfl (cwV 1 hts (gz_V mw_2_93 mw_2_94 mw_2_95 mw_1_2 mw_2_96) rfl rfl rfl hdV_X5_has ⟨Nat.le_of_ble_eq_true rfl, Nat.le_of_ble_eq_true rfl⟩) hK hG (ga_8 g _) rfl rfl rfl hl.1 rfl (Nat.le_of_ble_eq_true rfl) dX8_cell_31 (fun H locs hG => ?_)
      refine W.eq (g2 := F0 m 34 ls [.int z5]) rfl ?_
      refine lv_if_ne (tgt := 39) hx hb dX8_cell_34 (by decide) (fun c7 => ?_) (fun c7 => ?_)
      · have h := ite_f c7 h
        refine lv_aload_n hx hb dX8_cell_39 rfl (lv_at hl 0 rfl) ?_
        refine gx_get (v := .ref (g.2.1 1)) (C := RX8) (T := TX8) (N := 13) hx hb hts mc_X8 hown hK hG (ga_0 g _) rfl 0 (by decide) hw0 rfl rfl dX8_cell_40 ?_
        refine lv_iload_n hx hb dX8_cell_43 rfl (lv_at hl 1 rfl) ?_
        refine gx_aald (v := .ref (g.2.1 8)) hx hb hK hG (ga_1 g _) (by decide) rfl dX8_cell_44 ?_
        refine lv_iload_n hx hb dX8_cell_45 rfl (lv_at hl 2 rfl) ?_
        refine lv_iload_n hx hb dX8_cell_46 rfl (lv_at hl 3 rfl) ?_
        obtain ⟨z8, hc9, h⟩ := bnd_some h
        refine gx_cV (σ' := (mkS σ [] [] [(9, z8)] [])) (r := none) (rest := []) (As := [.int x2, .int x3]) hS9 (c_Sh_write_8 l g (mkS σ [] [] [(9, (σ.2.2.1 9))] []) x2 x3 z8 hc9) (mk_mk rfl rfl rfl rfl) (cwV 2 hts (gz_V mw_2_97 mw_2_98 mw_2_99 mw_1_2 mw_2_100) rfl rfl rfl hdV_X5_write ⟨Nat.le_of_ble_eq_true rfl, Nat.le_of_ble_eq_true rfl⟩) hK hG (ga_8 g _) rfl rfl rfl hl.1 rfl (Nat.le_of_ble_eq_true rfl) dX8_cell_47 (fun H locs hG => ?_)
        refine W.eq (g2 := F0 m 50 ls []) rfl ?_
        refine lv_iconst (v := (1 : Int32)) hx hb dX8_cell_50 (by decide) ?_
        cases h
        exact gx_iret hx hb hr hlocks hG dX8_cell_51
      · have h := ite_t c7 h
        refine lv_iconst (v := (-1 : Int32)) hx hb dX8_cell_37 (by decide) ?_
        cases h
        exact gx_iret hx hb hr hlocks hG dX8_cell_38
    · have h := ite_t c4 h
      refine lv_bipush (v := (-3 : Int32)) hx hb dX8_cell_21 (by decide) ?_
      cases h
      exact gx_iret hx hb hr hlocks hG dX8_cell_23
  · have h := ite_t c3 h
    refine lv_iconst (v := (-1 : Int32)) hx hb dX8_cell_7 (by decide) ?_
    cases h
    exact gx_iret hx hb hr hlocks hG dX8_cell_8

set_option maxHeartbeats 4000000 in
set_option maxRecDepth 100000 in
theorem c_LN_cell_so (l : Launch) (g : GC) (σ : St) (x1 : Int32) (x2 : Int32) (x3 : Int32) (r : Int32) (h : LN_cell_so x1 x2 x3 = some r) : Cn l g yX8_cell (Cond.code yX8_cell cX8_cell 4 (some .int) :: wG) 1 22 [.ref (g.2.1 0), .int x1, .int x2, .int x3] σ (some (.int r)) σ := by
  unfold Cn
  refine Met.ofW (cc := cX8_cell) (maxL := 4) (ret := (some .int)) (by decide) rfl ?_
  intro p e s m args below meth c s₁ B hml hv
  obtain ⟨hargs, hP0, hK⟩ := hv
  have hx := B.exec
  have hb := B.bytes
  have hr := B.returns
  have hts : ∀ w ∈ wG, w.before args s = true := fun w h => atoms_spec (ws := (Cond.code yX8_cell cX8_cell 4 (some .int) :: wG)) B.pre w (List.mem_cons_of_mem _ h)
  have hown : s.vm.findClass RX8 = some m.cls := findClass_of_methodNamed B.named
  have hlocks := B.notSynchronized
  have hS9 : CallFix p m c cX8_cell 4 s args wG RX8 := ⟨hx, hb, hml, hown, hts⟩
  have hw0 := hts _ mw_2_37
  have hf9 : entryFrame m args 4 = _ := (congrArg (fun a => entryFrame m a 4) hargs).trans (lg_entry_eq m [.ref (g.2.1 0), .int x1, .int x2, .int x3] 4)
  show Wg p l e 1 22 s m args below meth c g (some (.int r)) σ s.heap [] (entryFrame m args 4)
  rw [hf9]
  have hl := lv_entry ([.ref (g.2.1 0), .int x1, .int x2, .int x3]) (n := 4) (Nat.le_of_ble_eq_true rfl)
  generalize (lg_sl ([.ref (g.2.1 0), .int x1, .int x2, .int x3]) ++ List.replicate (4 - (lg_sl ([.ref (g.2.1 0), .int x1, .int x2, .int x3])).length) Slot.unset).toArray = ls at hl ⊢
  have hl : lv_has ls 4 [(0, .ref (g.2.1 0)), (1, .int x1), (2, .int x2), (3, .int x3)] := hl
  have hG : GW g s σ s.heap [] := ⟨hP0, va_S.rf⟩
  unfold LN_cell_so at h
  refine lv_iload_n hx hb dX8_cell_0 rfl (lv_at hl 1 rfl) ?_
  obtain ⟨z1, hc2, h⟩ := bnd_some h
  refine gx_cS (σ' := σ) (r := (some (.int z1))) (rest := []) (As := [.int x1]) hS9 (c_LN_isSheet l g σ x1 z1 hc2) rfl (va_cwS 1 hts (gz_S mw_2_81 mw_2_82 mw_1_1 mw_2_83) rfl rfl rfl hdS_X8_isSheet ⟨Nat.le_of_ble_eq_true rfl, Nat.le_of_ble_eq_true rfl⟩) hK hG rfl hl.1 rfl (Nat.le_of_ble_eq_true rfl) dX8_cell_1 (fun H locs hG => ?_)
  refine W.eq (g2 := F0 m 4 ls [.int z1]) rfl ?_
  refine lv_if_ne (tgt := 9) hx hb dX8_cell_4 (by decide) (fun c3 => ?_) (fun c3 => ?_)
  · have h := ite_f c3 h
    refine lv_aload_n hx hb dX8_cell_9 rfl (lv_at hl 0 rfl) ?_
    refine gx_get (v := .ref (g.2.1 1)) (C := RX8) (T := TX8) (N := 13) hx hb hts mc_X8 hown hK hG (ga_0 g _) rfl 0 (by decide) hw0 rfl rfl dX8_cell_10 ?_
    refine lv_iload_n hx hb dX8_cell_13 rfl (lv_at hl 1 rfl) ?_
    exact no_some h
  · have h := ite_t c3 h
    refine lv_iconst (v := (-1 : Int32)) hx hb dX8_cell_7 (by decide) ?_
    cases h
    exact gx_iret hx hb hr hlocks hG dX8_cell_8

set_option maxHeartbeats 4000000 in
set_option maxRecDepth 100000 in
theorem c_JA_fillI_21 (l : Launch) (g : GC) (σ : St) (x1 : Int32) (w_r0 : Nat → Int32) (h : JA_fillI x1 1024 (σ.2.2.1 21) = some w_r0) : Cn l g yJ7_fill_53178 (Cond.code yJ7_fill_53178 cJ7_fill_53178 4 none :: wG) 0 0 [.ref (g.2.1 21), .int x1] σ none (mkS σ [] [] [(21, w_r0)] []) := by
  unfold Cn
  refine Met.ofW (cc := cJ7_fill_53178) (maxL := 4) (ret := none) (by decide) rfl ?_
  intro p e s m args below meth c s₁ B hml hv
  obtain ⟨hargs, hP0, hK⟩ := hv
  have hx := B.exec
  have hb := B.bytes
  have hr := B.returns
  have hts : ∀ w ∈ wG, w.before args s = true := fun w h => atoms_spec (ws := (Cond.code yJ7_fill_53178 cJ7_fill_53178 4 none :: wG)) B.pre w (List.mem_cons_of_mem _ h)
  have hown : s.vm.findClass RJ7 = some m.cls := findClass_of_methodNamed B.named
  have hlocks := B.notSynchronized
  have hf9 : entryFrame m args 4 = _ := (congrArg (fun a => entryFrame m a 4) hargs).trans (lg_entry_eq m [.ref (g.2.1 21), .int x1] 4)
  show Wg p l e 0 0 s m args below meth c g none (mkS σ [] [] [(21, w_r0)] []) s.heap [] (entryFrame m args 4)
  rw [hf9]
  have hl := lv_entry ([.ref (g.2.1 21), .int x1]) (n := 4) (Nat.le_of_ble_eq_true rfl)
  generalize (lg_sl ([.ref (g.2.1 21), .int x1]) ++ List.replicate (4 - (lg_sl ([.ref (g.2.1 21), .int x1])).length) Slot.unset).toArray = ls at hl ⊢
  have hl : lv_has ls 4 [(0, .ref (g.2.1 21)), (1, .int x1)] := hl
  have hG : GW g s σ s.heap [] := ⟨hP0, va_S.rf⟩
  have hG : GW g s (mkS σ [] [] [(21, (σ.2.2.1 21))] []) s.heap [] := GW_self [] [] [21] [] hG
  unfold JA_fillI at h
  have n20 : ∀ (v_r0 : Nat → Int32) (H : Heap) (locs : List Loc) (ls : Array Slot), lv_has ls 4 [] → GW g s (mkS σ [] [] [(21, v_r0)] []) H locs → JA_fillI_n20 1024 v_r0 = some w_r0 → Wg p l e 0 0 s m args below meth c g none (mkS σ [] [] [(21, w_r0)] []) H locs (F0 m 20 ls []) := by
    intro v_r0 H locs ls hl hG h
    unfold JA_fillI_n20 at h
    cases h
    exact gx_vret hx hb hr hlocks hG dJ7_fill_53178_20
  have n5 : ∀ (k5 : Int32 → Int32 → Int32 → (Nat → Int32) → Option ((Nat → Int32))) (hk5 : ∀ (x1 : Int32) (x2 : Int32) (x3 : Int32) (v_r0 : Nat → Int32) (H : Heap) (locs : List Loc) (ls : Array Slot), lv_has ls 4 [(0, .ref (g.2.1 21)), (1, .int x1), (2, .int x2), (3, .int x3)] → GW g s (mkS σ [] [] [(21, v_r0)] []) H locs → k5 x1 x2 x3 v_r0 = some w_r0 → Wg p l e 0 0 s m args below meth c g none (mkS σ [] [] [(21, w_r0)] []) H locs (F0 m 5 ls [])) (x1 : Int32) (x2 : Int32) (x3 : Int32) (v_r0 : Nat → Int32) (H : Heap) (locs : List Loc) (ls : Array Slot), lv_has ls 4 [(0, .ref (g.2.1 21)), (1, .int x1), (2, .int x2), (3, .int x3)] → GW g s (mkS σ [] [] [(21, v_r0)] []) H locs → JA_fillI_n5 k5 1024 x1 x2 x3 v_r0 = some w_r0 → Wg p l e 0 0 s m args below meth c g none (mkS σ [] [] [(21, w_r0)] []) H locs (F0 m 5 ls []) := by
    intro k5 hk5 x1 x2 x3 v_r0 H locs ls hl hG h
    unfold JA_fillI_n5 at h
    refine lv_iload_n hx hb dJ7_fill_53178_5 rfl (lv_at hl 2 rfl) ?_
    refine lv_iload_n hx hb dJ7_fill_53178_6 rfl (lv_at hl 3 rfl) ?_
    refine lv_icmp_ge (tgt := 20) hx hb dJ7_fill_53178_7 (by decide) (fun c1 => ?_) (fun c1 => ?_)
    · have h := ite_t c1 h
      exact n20 v_r0 _ _ _ (lv_sub hl [] rfl) hG h
    · have h := ite_f c1 h
      refine lv_aload_n hx hb dJ7_fill_53178_10 rfl (lv_at hl 0 rfl) ?_
      refine lv_iload_n hx hb dJ7_fill_53178_11 rfl (lv_at hl 2 rfl) ?_
      refine lv_iload_n hx hb dJ7_fill_53178_12 rfl (lv_at hl 1 rfl) ?_
      obtain ⟨hg2, h⟩ := gd_some h
      refine gx_iast (σ' := (mkS σ [] [] [(21, (upd v_r0 (x2.toNatClampNeg) x1))] [])) (f := v_r0) hx hb hK hG (ga_21 g _) hg2 ((gs_21 g _ _).trans (congrArg (g_cells g) (mk_c 0 rfl rfl))) dJ7_fill_53178_13 (fun H locs hG => ?_)
      refine lv_iinc (v := (x2 + (1 : Int32))) (lv' := [(2, .int (x2 + (1 : Int32))), (0, .ref (g.2.1 21)), (1, .int x1), (3, .int x3)]) hx hb dJ7_fill_53178_14 hl (k := 2) rfl (congrArg (fun z => x2 + z) (by decide)) (Nat.le_of_ble_eq_true rfl) rfl (fun ls hl => ?_)
      refine lv_goto (tgt := 5) hx hb dJ7_fill_53178_17 (by decide) ?_
      exact hk5 x1 (x2 + (1 : Int32)) x3 (upd v_r0 (x2.toNatClampNeg) x1) _ _ _ (lv_sub hl [1, 2, 0, 3] rfl) hG h
  have l5 : ∀  (F : Nat) (x1 : Int32) (x2 : Int32) (x3 : Int32) (v_r0 : Nat → Int32) (H : Heap) (locs : List Loc) (ls : Array Slot), lv_has ls 4 [(0, .ref (g.2.1 21)), (1, .int x1), (2, .int x2), (3, .int x3)] → GW g s (mkS σ [] [] [(21, v_r0)] []) H locs → JA_fillI_l5 1024 F x1 x2 x3 v_r0 = some w_r0 → Wg p l e 0 0 s m args below meth c g none (mkS σ [] [] [(21, w_r0)] []) H locs (F0 m 5 ls []) := by
    intro F
    induction F with
    | zero => intro x1 x2 x3 v_r0 H locs ls hl hG h; exact no_some h
    | succ F ih => intro x1 x2 x3 v_r0 H locs ls hl hG h; exact n5 (fun x1 x2 x3 v_r0 => JA_fillI_l5 1024 F x1 x2 x3 v_r0) ih x1 x2 x3 v_r0 H locs ls hl hG h
  refine lv_iconst (v := (0 : Int32)) hx hb dJ7_fill_53178_0 (by decide) ?_
  refine lv_istore_n (lv' := [(2, .int (0 : Int32)), (0, .ref (g.2.1 21)), (1, .int x1)]) hx hb dJ7_fill_53178_1 rfl hl (Nat.le_of_ble_eq_true rfl) rfl (fun ls hl => ?_)
  refine lv_aload_n hx hb dJ7_fill_53178_2 rfl (lv_at hl 1 rfl) ?_
  refine gx_alen (v := (Int32.ofNat 1024)) hx hb hK hG 0 (ga_21 g _) rfl rfl dJ7_fill_53178_3 ?_
  refine lv_istore_n (lv' := [(3, .int (Int32.ofNat 1024)), (2, .int (0 : Int32)), (0, .ref (g.2.1 21)), (1, .int x1)]) hx hb dJ7_fill_53178_4 rfl hl (Nat.le_of_ble_eq_true rfl) rfl (fun ls hl => ?_)
  exact l5 FUEL x1 (0 : Int32) (Int32.ofNat 1024) (σ.2.2.1 21) _ _ _ (lv_sub hl [2, 3, 1, 0] rfl) hG h

set_option maxHeartbeats 4000000 in
set_option maxRecDepth 100000 in
theorem c_JA_fillI_22 (l : Launch) (g : GC) (σ : St) (x1 : Int32) (w_r0 : Nat → Int32) (h : JA_fillI x1 1024 (σ.2.2.1 22) = some w_r0) : Cn l g yJ7_fill_53178 (Cond.code yJ7_fill_53178 cJ7_fill_53178 4 none :: wG) 0 0 [.ref (g.2.1 22), .int x1] σ none (mkS σ [] [] [(22, w_r0)] []) := by
  unfold Cn
  refine Met.ofW (cc := cJ7_fill_53178) (maxL := 4) (ret := none) (by decide) rfl ?_
  intro p e s m args below meth c s₁ B hml hv
  obtain ⟨hargs, hP0, hK⟩ := hv
  have hx := B.exec
  have hb := B.bytes
  have hr := B.returns
  have hts : ∀ w ∈ wG, w.before args s = true := fun w h => atoms_spec (ws := (Cond.code yJ7_fill_53178 cJ7_fill_53178 4 none :: wG)) B.pre w (List.mem_cons_of_mem _ h)
  have hown : s.vm.findClass RJ7 = some m.cls := findClass_of_methodNamed B.named
  have hlocks := B.notSynchronized
  have hf9 : entryFrame m args 4 = _ := (congrArg (fun a => entryFrame m a 4) hargs).trans (lg_entry_eq m [.ref (g.2.1 22), .int x1] 4)
  show Wg p l e 0 0 s m args below meth c g none (mkS σ [] [] [(22, w_r0)] []) s.heap [] (entryFrame m args 4)
  rw [hf9]
  have hl := lv_entry ([.ref (g.2.1 22), .int x1]) (n := 4) (Nat.le_of_ble_eq_true rfl)
  generalize (lg_sl ([.ref (g.2.1 22), .int x1]) ++ List.replicate (4 - (lg_sl ([.ref (g.2.1 22), .int x1])).length) Slot.unset).toArray = ls at hl ⊢
  have hl : lv_has ls 4 [(0, .ref (g.2.1 22)), (1, .int x1)] := hl
  have hG : GW g s σ s.heap [] := ⟨hP0, va_S.rf⟩
  have hG : GW g s (mkS σ [] [] [(22, (σ.2.2.1 22))] []) s.heap [] := GW_self [] [] [22] [] hG
  unfold JA_fillI at h
  have n20 : ∀ (v_r0 : Nat → Int32) (H : Heap) (locs : List Loc) (ls : Array Slot), lv_has ls 4 [] → GW g s (mkS σ [] [] [(22, v_r0)] []) H locs → JA_fillI_n20 1024 v_r0 = some w_r0 → Wg p l e 0 0 s m args below meth c g none (mkS σ [] [] [(22, w_r0)] []) H locs (F0 m 20 ls []) := by
    intro v_r0 H locs ls hl hG h
    unfold JA_fillI_n20 at h
    cases h
    exact gx_vret hx hb hr hlocks hG dJ7_fill_53178_20
  have n5 : ∀ (k5 : Int32 → Int32 → Int32 → (Nat → Int32) → Option ((Nat → Int32))) (hk5 : ∀ (x1 : Int32) (x2 : Int32) (x3 : Int32) (v_r0 : Nat → Int32) (H : Heap) (locs : List Loc) (ls : Array Slot), lv_has ls 4 [(0, .ref (g.2.1 22)), (1, .int x1), (2, .int x2), (3, .int x3)] → GW g s (mkS σ [] [] [(22, v_r0)] []) H locs → k5 x1 x2 x3 v_r0 = some w_r0 → Wg p l e 0 0 s m args below meth c g none (mkS σ [] [] [(22, w_r0)] []) H locs (F0 m 5 ls [])) (x1 : Int32) (x2 : Int32) (x3 : Int32) (v_r0 : Nat → Int32) (H : Heap) (locs : List Loc) (ls : Array Slot), lv_has ls 4 [(0, .ref (g.2.1 22)), (1, .int x1), (2, .int x2), (3, .int x3)] → GW g s (mkS σ [] [] [(22, v_r0)] []) H locs → JA_fillI_n5 k5 1024 x1 x2 x3 v_r0 = some w_r0 → Wg p l e 0 0 s m args below meth c g none (mkS σ [] [] [(22, w_r0)] []) H locs (F0 m 5 ls []) := by
    intro k5 hk5 x1 x2 x3 v_r0 H locs ls hl hG h
    unfold JA_fillI_n5 at h
    refine lv_iload_n hx hb dJ7_fill_53178_5 rfl (lv_at hl 2 rfl) ?_
    refine lv_iload_n hx hb dJ7_fill_53178_6 rfl (lv_at hl 3 rfl) ?_
    refine lv_icmp_ge (tgt := 20) hx hb dJ7_fill_53178_7 (by decide) (fun c1 => ?_) (fun c1 => ?_)
    · have h := ite_t c1 h
      exact n20 v_r0 _ _ _ (lv_sub hl [] rfl) hG h
    · have h := ite_f c1 h
      refine lv_aload_n hx hb dJ7_fill_53178_10 rfl (lv_at hl 0 rfl) ?_
      refine lv_iload_n hx hb dJ7_fill_53178_11 rfl (lv_at hl 2 rfl) ?_
      refine lv_iload_n hx hb dJ7_fill_53178_12 rfl (lv_at hl 1 rfl) ?_
      obtain ⟨hg2, h⟩ := gd_some h
      refine gx_iast (σ' := (mkS σ [] [] [(22, (upd v_r0 (x2.toNatClampNeg) x1))] [])) (f := v_r0) hx hb hK hG (ga_22 g _) hg2 ((gs_22 g _ _).trans (congrArg (g_cells g) (mk_c 0 rfl rfl))) dJ7_fill_53178_13 (fun H locs hG => ?_)
      refine lv_iinc (v := (x2 + (1 : Int32))) (lv' := [(2, .int (x2 + (1 : Int32))), (0, .ref (g.2.1 22)), (1, .int x1), (3, .int x3)]) hx hb dJ7_fill_53178_14 hl (k := 2) rfl (congrArg (fun z => x2 + z) (by decide)) (Nat.le_of_ble_eq_true rfl) rfl (fun ls hl => ?_)
      refine lv_goto (tgt := 5) hx hb dJ7_fill_53178_17 (by decide) ?_
      exact hk5 x1 (x2 + (1 : Int32)) x3 (upd v_r0 (x2.toNatClampNeg) x1) _ _ _ (lv_sub hl [1, 2, 0, 3] rfl) hG h
  have l5 : ∀  (F : Nat) (x1 : Int32) (x2 : Int32) (x3 : Int32) (v_r0 : Nat → Int32) (H : Heap) (locs : List Loc) (ls : Array Slot), lv_has ls 4 [(0, .ref (g.2.1 22)), (1, .int x1), (2, .int x2), (3, .int x3)] → GW g s (mkS σ [] [] [(22, v_r0)] []) H locs → JA_fillI_l5 1024 F x1 x2 x3 v_r0 = some w_r0 → Wg p l e 0 0 s m args below meth c g none (mkS σ [] [] [(22, w_r0)] []) H locs (F0 m 5 ls []) := by
    intro F
    induction F with
    | zero => intro x1 x2 x3 v_r0 H locs ls hl hG h; exact no_some h
    | succ F ih => intro x1 x2 x3 v_r0 H locs ls hl hG h; exact n5 (fun x1 x2 x3 v_r0 => JA_fillI_l5 1024 F x1 x2 x3 v_r0) ih x1 x2 x3 v_r0 H locs ls hl hG h
  refine lv_iconst (v := (0 : Int32)) hx hb dJ7_fill_53178_0 (by decide) ?_
  refine lv_istore_n (lv' := [(2, .int (0 : Int32)), (0, .ref (g.2.1 22)), (1, .int x1)]) hx hb dJ7_fill_53178_1 rfl hl (Nat.le_of_ble_eq_true rfl) rfl (fun ls hl => ?_)
  refine lv_aload_n hx hb dJ7_fill_53178_2 rfl (lv_at hl 1 rfl) ?_
  refine gx_alen (v := (Int32.ofNat 1024)) hx hb hK hG 0 (ga_22 g _) rfl rfl dJ7_fill_53178_3 ?_
  refine lv_istore_n (lv' := [(3, .int (Int32.ofNat 1024)), (2, .int (0 : Int32)), (0, .ref (g.2.1 22)), (1, .int x1)]) hx hb dJ7_fill_53178_4 rfl hl (Nat.le_of_ble_eq_true rfl) rfl (fun ls hl => ?_)
  exact l5 FUEL x1 (0 : Int32) (Int32.ofNat 1024) (σ.2.2.1 22) _ _ _ (lv_sub hl [2, 3, 1, 0] rfl) hG h

set_option maxHeartbeats 4000000 in
set_option maxRecDepth 100000 in
theorem c_LN_isIn (l : Launch) (g : GC) (σ : St) (x0 : Int32) (x1 : Int32) (r : Int32) (h : LN_isIn x0 x1 = some r) : Cn l g yX8_isIn (Cond.code yX8_isIn cX8_isIn 2 (some .boolean) :: wG) 0 0 [.int x0, .int x1] σ (some (.int r)) σ := by
  unfold Cn
  refine Met.ofW (cc := cX8_isIn) (maxL := 2) (ret := (some .boolean)) (by decide) rfl ?_
  intro p e s m args below meth c s₁ B hml hv
  obtain ⟨hargs, hP0, hK⟩ := hv
  have hx := B.exec
  have hb := B.bytes
  have hr := B.returns
  have hts : ∀ w ∈ wG, w.before args s = true := fun w h => atoms_spec (ws := (Cond.code yX8_isIn cX8_isIn 2 (some .boolean) :: wG)) B.pre w (List.mem_cons_of_mem _ h)
  have hown : s.vm.findClass RX8 = some m.cls := findClass_of_methodNamed B.named
  have hlocks := B.notSynchronized
  have hf9 : entryFrame m args 2 = _ := (congrArg (fun a => entryFrame m a 2) hargs).trans (lg_entry_eq m [.int x0, .int x1] 2)
  show Wg p l e 0 0 s m args below meth c g (some (.int r)) σ s.heap [] (entryFrame m args 2)
  rw [hf9]
  have hl := lv_entry ([.int x0, .int x1]) (n := 2) (Nat.le_of_ble_eq_true rfl)
  generalize (lg_sl ([.int x0, .int x1]) ++ List.replicate (2 - (lg_sl ([.int x0, .int x1])).length) Slot.unset).toArray = ls at hl ⊢
  have hl : lv_has ls 2 [(0, .int x0), (1, .int x1)] := hl
  have hG : GW g s σ s.heap [] := ⟨hP0, va_S.rf⟩
  unfold LN_isIn at h
  have n13 : ∀ (t0 : Int32) (H : Heap) (locs : List Loc) (ls : Array Slot), lv_has ls 2 [] → GW g s σ H locs → LN_isIn_n13 t0 = some r → Wg p l e 0 0 s m args below meth c g (some (.int r)) σ H locs (F0 m 13 ls [.int t0]) := by
    intro t0 H locs ls hl hG h
    unfold LN_isIn_n13 at h
    obtain ⟨hg1, h⟩ := gd_some h
    cases h
    exact gx_zret hx hb hr hlocks hg1 hG dX8_isIn_13
  refine lv_iload_n hx hb dX8_isIn_0 rfl (lv_at hl 0 rfl) ?_
  refine lv_iload_n hx hb dX8_isIn_1 rfl (lv_at hl 1 rfl) ?_
  refine lv_iushr hx hb dX8_isIn_2 rfl ?_
  refine lv_iconst (v := (1 : Int32)) hx hb dX8_isIn_3 (by decide) ?_
  refine lv_iand hx hb dX8_isIn_4 ?_
  refine lv_if_eq (tgt := 12) hx hb dX8_isIn_5 (by decide) (fun c2 => ?_) (fun c2 => ?_)
  · have h := ite_t c2 h
    refine lv_iconst (v := (0 : Int32)) hx hb dX8_isIn_12 (by decide) ?_
    exact n13 (0 : Int32) _ _ _ (lv_sub hl [] rfl) hG h
  · have h := ite_f c2 h
    refine lv_iconst (v := (1 : Int32)) hx hb dX8_isIn_8 (by decide) ?_
    refine lv_goto (tgt := 13) hx hb dX8_isIn_9 (by decide) ?_
    exact n13 (1 : Int32) _ _ _ (lv_sub hl [] rfl) hG h

set_option maxHeartbeats 4000000 in
set_option maxRecDepth 100000 in
theorem c_Wy_noteSteps (l : Launch) (g : GC) (σ : St) (x1 : Int32) (x2 : Int32) (x3 : Int32) (w_steps : Nat → Int32) (h : Wy_noteSteps x1 x2 x3 (σ.1 1285) (σ.2.2.1 21) = some w_steps) : Cn l g yX7_noteSteps (Cond.code yX7_noteSteps cX7_noteSteps 5 none :: wG) 1 21 [.ref (g.2.1 20), .int x1, .int x2, .int x3] σ none (mkS σ [] [] [(21, w_steps)] []) := by
  unfold Cn
  refine Met.ofW (cc := cX7_noteSteps) (maxL := 5) (ret := none) (by decide) rfl ?_
  intro p e s m args below meth c s₁ B hml hv
  obtain ⟨hargs, hP0, hK⟩ := hv
  have hx := B.exec
  have hb := B.bytes
  have hr := B.returns
  have hts : ∀ w ∈ wG, w.before args s = true := fun w h => atoms_spec (ws := (Cond.code yX7_noteSteps cX7_noteSteps 5 none :: wG)) B.pre w (List.mem_cons_of_mem _ h)
  have hown : s.vm.findClass RX7 = some m.cls := findClass_of_methodNamed B.named
  have hlocks := B.notSynchronized
  have hS9 : CallFix p m c cX7_noteSteps 5 s args wG RX7 := ⟨hx, hb, hml, hown, hts⟩
  have hw0 := hts _ mw_1_91
  have hw1 := hts _ mw_1_1
  have hw2 := hts _ mw_2_135
  have hw3 := hts _ mw_1_83
  have hf9 : entryFrame m args 5 = _ := (congrArg (fun a => entryFrame m a 5) hargs).trans (lg_entry_eq m [.ref (g.2.1 20), .int x1, .int x2, .int x3] 5)
  show Wg p l e 1 21 s m args below meth c g none (mkS σ [] [] [(21, w_steps)] []) s.heap [] (entryFrame m args 5)
  rw [hf9]
  have hl := lv_entry ([.ref (g.2.1 20), .int x1, .int x2, .int x3]) (n := 5) (Nat.le_of_ble_eq_true rfl)
  generalize (lg_sl ([.ref (g.2.1 20), .int x1, .int x2, .int x3]) ++ List.replicate (5 - (lg_sl ([.ref (g.2.1 20), .int x1, .int x2, .int x3])).length) Slot.unset).toArray = ls at hl ⊢
  have hl : lv_has ls 5 [(0, .ref (g.2.1 20)), (1, .int x1), (2, .int x2), (3, .int x3)] := hl
  have hG : GW g s σ s.heap [] := ⟨hP0, va_S.rf⟩
  have hG : GW g s (mkS σ [] [] [(21, (σ.2.2.1 21))] []) s.heap [] := GW_self [] [] [21] [] hG
  unfold Wy_noteSteps at h
  have n34 : ∀ (k3 : Int32 → Int32 → Int32 → Int32 → (Nat → Int32) → Option ((Nat → Int32))) (hk3 : ∀ (x1 : Int32) (x2 : Int32) (x3 : Int32) (x4 : Int32) (v_steps : Nat → Int32) (H : Heap) (locs : List Loc) (ls : Array Slot), lv_has ls 5 [(0, .ref (g.2.1 20)), (1, .int x1), (2, .int x2), (3, .int x3), (4, .int x4)] → GW g s (mkS σ [] [] [(21, v_steps)] []) H locs → k3 x1 x2 x3 x4 v_steps = some w_steps → Wg p l e 1 21 s m args below meth c g none (mkS σ [] [] [(21, w_steps)] []) H locs (F0 m 3 ls [])) (x1 : Int32) (x2 : Int32) (x3 : Int32) (x4 : Int32) (v_steps : Nat → Int32) (H : Heap) (locs : List Loc) (ls : Array Slot), lv_has ls 5 [(0, .ref (g.2.1 20)), (1, .int x1), (2, .int x2), (3, .int x3), (4, .int x4)] → GW g s (mkS σ [] [] [(21, v_steps)] []) H locs → Wy_noteSteps_n34 k3 x1 x2 x3 x4 v_steps = some w_steps → Wg p l e 1 21 s m args below meth c g none (mkS σ [] [] [(21, w_steps)] []) H locs (F0 m 34 ls []) := by
    intro k3 hk3 x1 x2 x3 x4 v_steps H locs ls hl hG h
    unfold Wy_noteSteps_n34 at h
    refine lv_iinc (v := (x4 + (1 : Int32))) (lv' := [(4, .int (x4 + (1 : Int32))), (0, .ref (g.2.1 20)), (1, .int x1), (2, .int x2), (3, .int x3)]) hx hb dX7_noteSteps_34 hl (k := 4) rfl (congrArg (fun z => x4 + z) (by decide)) (Nat.le_of_ble_eq_true rfl) rfl (fun ls hl => ?_)
    refine lv_goto (tgt := 3) hx hb dX7_noteSteps_37 (by decide) ?_
    exact hk3 x1 x2 x3 (x4 + (1 : Int32)) v_steps _ _ _ (lv_sub hl [1, 2, 3, 4, 0] rfl) hG h
  have n40 : ∀ (v_steps : Nat → Int32) (H : Heap) (locs : List Loc) (ls : Array Slot), lv_has ls 5 [] → GW g s (mkS σ [] [] [(21, v_steps)] []) H locs → Wy_noteSteps_n40 v_steps = some w_steps → Wg p l e 1 21 s m args below meth c g none (mkS σ [] [] [(21, w_steps)] []) H locs (F0 m 40 ls []) := by
    intro v_steps H locs ls hl hG h
    unfold Wy_noteSteps_n40 at h
    cases h
    exact gx_vret hx hb hr hlocks hG dX7_noteSteps_40
  have n3 : ∀ (k3 : Int32 → Int32 → Int32 → Int32 → (Nat → Int32) → Option ((Nat → Int32))) (hk3 : ∀ (x1 : Int32) (x2 : Int32) (x3 : Int32) (x4 : Int32) (v_steps : Nat → Int32) (H : Heap) (locs : List Loc) (ls : Array Slot), lv_has ls 5 [(0, .ref (g.2.1 20)), (1, .int x1), (2, .int x2), (3, .int x3), (4, .int x4)] → GW g s (mkS σ [] [] [(21, v_steps)] []) H locs → k3 x1 x2 x3 x4 v_steps = some w_steps → Wg p l e 1 21 s m args below meth c g none (mkS σ [] [] [(21, w_steps)] []) H locs (F0 m 3 ls [])) (x1 : Int32) (x2 : Int32) (x3 : Int32) (x4 : Int32) (v_steps : Nat → Int32) (H : Heap) (locs : List Loc) (ls : Array Slot), lv_has ls 5 [(0, .ref (g.2.1 20)), (1, .int x1), (2, .int x2), (3, .int x3), (4, .int x4)] → GW g s (mkS σ [] [] [(21, v_steps)] []) H locs → Wy_noteSteps_n3 k3 (σ.1 1285) x1 x2 x3 x4 v_steps = some w_steps → Wg p l e 1 21 s m args below meth c g none (mkS σ [] [] [(21, w_steps)] []) H locs (F0 m 3 ls []) := by
    intro k3 hk3 x1 x2 x3 x4 v_steps H locs ls hl hG h
    unfold Wy_noteSteps_n3 at h
    refine lv_iload hx hb dX7_noteSteps_3 (lv_at hl 4 rfl) ?_
    refine lv_aload_n hx hb dX7_noteSteps_5 rfl (lv_at hl 0 rfl) ?_
    refine gx_get (v := .int (σ.1 1285)) (C := RX7) (T := TX7) (N := 7) hx hb hts mc_X7 hown hK hG (ga_20 g _) rfl 5 (by decide) hw0 rfl rfl dX7_noteSteps_6 ?_
    refine lv_icmp_ge (tgt := 40) hx hb dX7_noteSteps_9 (by decide) (fun c1 => ?_) (fun c1 => ?_)
    · have h := ite_t c1 h
      exact n40 v_steps _ _ _ (lv_sub hl [] rfl) hG h
    · have h := ite_f c1 h
      refine lv_iload_n hx hb dX7_noteSteps_12 rfl (lv_at hl 2 rfl) ?_
      refine lv_iload hx hb dX7_noteSteps_13 (lv_at hl 4 rfl) ?_
      obtain ⟨z2, hc3, h⟩ := bnd_some h
      refine gx_cN (σ' := (mkS σ [] [] [(21, v_steps)] [])) (r := (some (.int z2))) (rest := []) (As := [.int x2, .int x4]) hS9 (c_LN_isIn l g (mkS σ [] [] [(21, v_steps)] []) x2 x4 z2 hc3) rfl (va_cnB 2 hts (gz_N mw_2_136) rfl rfl rfl (hK.2.2 _ (List.mem_of_getElem? (i := 5) rfl)) hw1 hdS_X8_isIn ⟨Nat.le_of_ble_eq_true rfl, Nat.le_of_ble_eq_true rfl⟩) hw2 hK hG rfl hl.1 rfl (Nat.le_of_ble_eq_true rfl) dX7_noteSteps_15 (fun H locs hG => ?_)
      refine W.eq (g2 := F0 m 18 ls [.int z2]) rfl ?_
      refine lv_if_eq (tgt := 34) hx hb dX7_noteSteps_18 (by decide) (fun c4 => ?_) (fun c4 => ?_)
      · have h := ite_t c4 h
        exact n34 k3 hk3 x1 x2 x3 x4 v_steps _ _ _ (lv_sub hl [0, 1, 2, 3, 4] rfl) hG h
      · have h := ite_f c4 h
        refine lv_aload_n hx hb dX7_noteSteps_21 rfl (lv_at hl 0 rfl) ?_
        refine gx_get (v := .ref (g.2.1 21)) (C := RX7) (T := TX7) (N := 7) hx hb hts mc_X7 hown hK hG (ga_20 g _) rfl 0 (by decide) hw3 rfl rfl dX7_noteSteps_22 ?_
        refine lv_iload_n hx hb dX7_noteSteps_25 rfl (lv_at hl 1 rfl) ?_
        refine lv_bipush (v := (32 : Int32)) hx hb dX7_noteSteps_26 (by decide) ?_
        refine lv_imul hx hb dX7_noteSteps_28 ?_
        refine lv_iload hx hb dX7_noteSteps_29 (lv_at hl 4 rfl) ?_
        refine lv_iadd hx hb dX7_noteSteps_31 ?_
        refine lv_iload_n hx hb dX7_noteSteps_32 rfl (lv_at hl 3 rfl) ?_
        obtain ⟨hg5, h⟩ := gd_some h
        refine gx_iast (σ' := (mkS σ [] [] [(21, (upd v_steps (((x1 * (32 : Int32)) + x4).toNatClampNeg) x3))] [])) (f := v_steps) hx hb hK hG (ga_21 g _) hg5 ((gs_21 g _ _).trans (congrArg (g_cells g) (mk_c 0 rfl rfl))) dX7_noteSteps_33 (fun H locs hG => ?_)
        exact n34 k3 hk3 x1 x2 x3 x4 (upd v_steps (((x1 * (32 : Int32)) + x4).toNatClampNeg) x3) _ _ _ (lv_sub hl [0, 1, 2, 3, 4] rfl) hG h
  have l3 : ∀  (F : Nat) (x1 : Int32) (x2 : Int32) (x3 : Int32) (x4 : Int32) (v_steps : Nat → Int32) (H : Heap) (locs : List Loc) (ls : Array Slot), lv_has ls 5 [(0, .ref (g.2.1 20)), (1, .int x1), (2, .int x2), (3, .int x3), (4, .int x4)] → GW g s (mkS σ [] [] [(21, v_steps)] []) H locs → Wy_noteSteps_l3 (σ.1 1285) F x1 x2 x3 x4 v_steps = some w_steps → Wg p l e 1 21 s m args below meth c g none (mkS σ [] [] [(21, w_steps)] []) H locs (F0 m 3 ls []) := by
    intro F
    induction F with
    | zero => intro x1 x2 x3 x4 v_steps H locs ls hl hG h; exact no_some h
    | succ F ih => intro x1 x2 x3 x4 v_steps H locs ls hl hG h; exact n3 (fun x1 x2 x3 x4 v_steps => Wy_noteSteps_l3 (σ.1 1285) F x1 x2 x3 x4 v_steps) ih x1 x2 x3 x4 v_steps H locs ls hl hG h
  refine lv_iconst (v := (0 : Int32)) hx hb dX7_noteSteps_0 (by decide) ?_
  refine lv_istore (lv' := [(4, .int (0 : Int32)), (0, .ref (g.2.1 20)), (1, .int x1), (2, .int x2), (3, .int x3)]) hx hb dX7_noteSteps_1 hl (Nat.le_of_ble_eq_true rfl) rfl (fun ls hl => ?_)
  exact l3 FUEL x1 x2 x3 (0 : Int32) (σ.2.2.1 21) _ _ _ (lv_sub hl [1, 2, 3, 4, 0] rfl) hG h

set_option maxHeartbeats 4000000 in
set_option maxRecDepth 100000 in
theorem c_Net_around_10 (l : Launch) (g : GC) (σ : St) (x1 : Int32) (r : Int32) (h : Net_around x1 (σ.1 641) (σ.2.2.1 11) = some r) : Cn l g yX2_around (Cond.code yX2_around cX2_around 4 (some .int) :: wG) 1 21 [.ref (g.2.1 10), .int x1] σ (some (.int r)) σ := by
  unfold Cn
  refine Met.ofW (cc := cX2_around) (maxL := 4) (ret := (some .int)) (by decide) rfl ?_
  intro p e s m args below meth c s₁ B hml hv
  obtain ⟨hargs, hP0, hK⟩ := hv
  have hx := B.exec
  have hb := B.bytes
  have hr := B.returns
  have hts : ∀ w ∈ wG, w.before args s = true := fun w h => atoms_spec (ws := (Cond.code yX2_around cX2_around 4 (some .int) :: wG)) B.pre w (List.mem_cons_of_mem _ h)
  have hown : s.vm.findClass RX2 = some m.cls := findClass_of_methodNamed B.named
  have hlocks := B.notSynchronized
  have hS9 : CallFix p m c cX2_around 4 s args wG RX2 := ⟨hx, hb, hml, hown, hts⟩
  have hw0 := hts _ mw_1_56
  have hw1 := hts _ mw_1_1
  have hw2 := hts _ mw_2_135
  have hw3 := hts _ mw_1_53
  have hf9 : entryFrame m args 4 = _ := (congrArg (fun a => entryFrame m a 4) hargs).trans (lg_entry_eq m [.ref (g.2.1 10), .int x1] 4)
  show Wg p l e 1 21 s m args below meth c g (some (.int r)) σ s.heap [] (entryFrame m args 4)
  rw [hf9]
  have hl := lv_entry ([.ref (g.2.1 10), .int x1]) (n := 4) (Nat.le_of_ble_eq_true rfl)
  generalize (lg_sl ([.ref (g.2.1 10), .int x1]) ++ List.replicate (4 - (lg_sl ([.ref (g.2.1 10), .int x1])).length) Slot.unset).toArray = ls at hl ⊢
  have hl : lv_has ls 4 [(0, .ref (g.2.1 10)), (1, .int x1)] := hl
  have hG : GW g s σ s.heap [] := ⟨hP0, va_S.rf⟩
  unfold Net_around at h
  have n29 : ∀ (k4 : Int32 → Int32 → Int32 → Option (Int32)) (hk4 : ∀ (x1 : Int32) (x2 : Int32) (x3 : Int32) (H : Heap) (locs : List Loc) (ls : Array Slot), lv_has ls 4 [(0, .ref (g.2.1 10)), (1, .int x1), (2, .int x2), (3, .int x3)] → GW g s σ H locs → k4 x1 x2 x3 = some r → Wg p l e 1 21 s m args below meth c g (some (.int r)) σ H locs (F0 m 4 ls [])) (x1 : Int32) (x2 : Int32) (x3 : Int32) (H : Heap) (locs : List Loc) (ls : Array Slot), lv_has ls 4 [(0, .ref (g.2.1 10)), (1, .int x1), (2, .int x2), (3, .int x3)] → GW g s σ H locs → Net_around_n29 k4 x1 x2 x3 = some r → Wg p l e 1 21 s m args below meth c g (some (.int r)) σ H locs (F0 m 29 ls []) := by
    intro k4 hk4 x1 x2 x3 H locs ls hl hG h
    unfold Net_around_n29 at h
    refine lv_iinc (v := (x3 + (1 : Int32))) (lv' := [(3, .int (x3 + (1 : Int32))), (0, .ref (g.2.1 10)), (1, .int x1), (2, .int x2)]) hx hb dX2_around_29 hl (k := 3) rfl (congrArg (fun z => x3 + z) (by decide)) (Nat.le_of_ble_eq_true rfl) rfl (fun ls hl => ?_)
    refine lv_goto (tgt := 4) hx hb dX2_around_32 (by decide) ?_
    exact hk4 x1 x2 (x3 + (1 : Int32)) _ _ _ (lv_sub hl [1, 2, 3, 0] rfl) hG h
  have n35 : ∀ (x2 : Int32) (H : Heap) (locs : List Loc) (ls : Array Slot), lv_has ls 4 [(2, .int x2)] → GW g s σ H locs → Net_around_n35 x2 = some r → Wg p l e 1 21 s m args below meth c g (some (.int r)) σ H locs (F0 m 35 ls []) := by
    intro x2 H locs ls hl hG h
    unfold Net_around_n35 at h
    refine lv_iload_n hx hb dX2_around_35 rfl (lv_at hl 0 rfl) ?_
    cases h
    exact gx_iret hx hb hr hlocks hG dX2_around_36
  have n4 : ∀ (k4 : Int32 → Int32 → Int32 → Option (Int32)) (hk4 : ∀ (x1 : Int32) (x2 : Int32) (x3 : Int32) (H : Heap) (locs : List Loc) (ls : Array Slot), lv_has ls 4 [(0, .ref (g.2.1 10)), (1, .int x1), (2, .int x2), (3, .int x3)] → GW g s σ H locs → k4 x1 x2 x3 = some r → Wg p l e 1 21 s m args below meth c g (some (.int r)) σ H locs (F0 m 4 ls [])) (x1 : Int32) (x2 : Int32) (x3 : Int32) (H : Heap) (locs : List Loc) (ls : Array Slot), lv_has ls 4 [(0, .ref (g.2.1 10)), (1, .int x1), (2, .int x2), (3, .int x3)] → GW g s σ H locs → Net_around_n4 k4 (σ.1 641) (σ.2.2.1 11) x1 x2 x3 = some r → Wg p l e 1 21 s m args below meth c g (some (.int r)) σ H locs (F0 m 4 ls []) := by
    intro k4 hk4 x1 x2 x3 H locs ls hl hG h
    unfold Net_around_n4 at h
    refine lv_iload_n hx hb dX2_around_4 rfl (lv_at hl 3 rfl) ?_
    refine lv_aload_n hx hb dX2_around_5 rfl (lv_at hl 0 rfl) ?_
    refine gx_get (v := .int (σ.1 641)) (C := RX2) (T := TX2) (N := 2) hx hb hts mc_X2 hown hK hG (ga_10 g _) rfl 1 (by decide) hw0 rfl rfl dX2_around_6 ?_
    refine lv_icmp_ge (tgt := 35) hx hb dX2_around_9 (by decide) (fun c1 => ?_) (fun c1 => ?_)
    · have h := ite_t c1 h
      exact n35 x2 _ _ _ (lv_sub hl [2] rfl) hG h
    · have h := ite_f c1 h
      refine lv_iload_n hx hb dX2_around_12 rfl (lv_at hl 1 rfl) ?_
      refine lv_iload_n hx hb dX2_around_13 rfl (lv_at hl 3 rfl) ?_
      obtain ⟨z2, hc3, h⟩ := bnd_some h
      refine gx_cN (σ' := σ) (r := (some (.int z2))) (rest := []) (As := [.int x1, .int x3]) hS9 (c_LN_isIn l g σ x1 x3 z2 hc3) rfl (va_cnB 2 hts (gz_N mw_2_136) rfl rfl rfl (hK.2.2 _ (List.mem_of_getElem? (i := 0) rfl)) hw1 hdS_X8_isIn ⟨Nat.le_of_ble_eq_true rfl, Nat.le_of_ble_eq_true rfl⟩) hw2 hK hG rfl hl.1 rfl (Nat.le_of_ble_eq_true rfl) dX2_around_14 (fun H locs hG => ?_)
      refine W.eq (g2 := F0 m 17 ls [.int z2]) rfl ?_
      refine lv_if_eq (tgt := 29) hx hb dX2_around_17 (by decide) (fun c4 => ?_) (fun c4 => ?_)
      · have h := ite_t c4 h
        exact n29 k4 hk4 x1 x2 x3 _ _ _ (lv_sub hl [0, 1, 2, 3] rfl) hG h
      · have h := ite_f c4 h
        refine lv_iload_n hx hb dX2_around_20 rfl (lv_at hl 2 rfl) ?_
        refine lv_aload_n hx hb dX2_around_21 rfl (lv_at hl 0 rfl) ?_
        refine gx_get (v := .ref (g.2.1 11)) (C := RX2) (T := TX2) (N := 2) hx hb hts mc_X2 hown hK hG (ga_10 g _) rfl 0 (by decide) hw3 rfl rfl dX2_around_22 ?_
        refine lv_iload_n hx hb dX2_around_25 rfl (lv_at hl 3 rfl) ?_
        obtain ⟨hg5, h⟩ := gd_some h
        refine gx_iald (f := (σ.2.2.1 11)) hx hb hK hG (ga_11 g _) hg5 dX2_around_26 ?_
        refine lv_ior hx hb dX2_around_27 ?_
        refine lv_istore_n (lv' := [(2, .int (x2 ||| ((σ.2.2.1 11) (x3.toNatClampNeg)))), (0, .ref (g.2.1 10)), (1, .int x1), (3, .int x3)]) hx hb dX2_around_28 rfl hl (Nat.le_of_ble_eq_true rfl) rfl (fun ls hl => ?_)
        exact n29 k4 hk4 x1 (x2 ||| ((σ.2.2.1 11) (x3.toNatClampNeg))) x3 _ _ _ (lv_sub hl [1, 2, 0, 3] rfl) hG h
  have l4 : ∀  (F : Nat) (x1 : Int32) (x2 : Int32) (x3 : Int32) (H : Heap) (locs : List Loc) (ls : Array Slot), lv_has ls 4 [(0, .ref (g.2.1 10)), (1, .int x1), (2, .int x2), (3, .int x3)] → GW g s σ H locs → Net_around_l4 (σ.1 641) (σ.2.2.1 11) F x1 x2 x3 = some r → Wg p l e 1 21 s m args below meth c g (some (.int r)) σ H locs (F0 m 4 ls []) := by
    intro F
    induction F with
    | zero => intro x1 x2 x3 H locs ls hl hG h; exact no_some h
    | succ F ih => intro x1 x2 x3 H locs ls hl hG h; exact n4 (fun x1 x2 x3 => Net_around_l4 (σ.1 641) (σ.2.2.1 11) F x1 x2 x3) ih x1 x2 x3 H locs ls hl hG h
  refine lv_iconst (v := (0 : Int32)) hx hb dX2_around_0 (by decide) ?_
  refine lv_istore_n (lv' := [(2, .int (0 : Int32)), (0, .ref (g.2.1 10)), (1, .int x1)]) hx hb dX2_around_1 rfl hl (Nat.le_of_ble_eq_true rfl) rfl (fun ls hl => ?_)
  refine lv_iconst (v := (0 : Int32)) hx hb dX2_around_2 (by decide) ?_
  refine lv_istore_n (lv' := [(3, .int (0 : Int32)), (2, .int (0 : Int32)), (0, .ref (g.2.1 10)), (1, .int x1)]) hx hb dX2_around_3 rfl hl (Nat.le_of_ble_eq_true rfl) rfl (fun ls hl => ?_)
  exact l4 FUEL x1 (0 : Int32) (0 : Int32) _ _ _ (lv_sub hl [2, 3, 1, 0] rfl) hG h

set_option maxHeartbeats 4000000 in
set_option maxRecDepth 100000 in
theorem c_Wy_spread (l : Launch) (g : GC) (σ : St) (x2 : Int32) (r : Int32) (w_layers : Nat → Int32) (w_reached : Nat → Int32) (w_steps : Nat → Int32) (h : Wy_spread x2 (σ.1 641) (σ.1 1285) (σ.2.2.1 22) (σ.2.2.1 11) (σ.2.2.1 23) (σ.2.2.1 21) = some (r, w_layers, w_reached, w_steps)) : Cn l g yX7_spread (Cond.code yX7_spread cX7_spread 7 (some .int) :: wG) 2 45 [.ref (g.2.1 20), .ref (g.2.1 10), .int x2] σ (some (.int r)) (mkS σ [] [] [(22, w_layers), (23, w_reached), (21, w_steps)] []) := by
  unfold Cn
  refine Met.ofW (cc := cX7_spread) (maxL := 7) (ret := (some .int)) (by decide) rfl ?_
  intro p e s m args below meth c s₁ B hml hv
  obtain ⟨hargs, hP0, hK⟩ := hv
  have hx := B.exec
  have hb := B.bytes
  have hr := B.returns
  have hts : ∀ w ∈ wG, w.before args s = true := fun w h => atoms_spec (ws := (Cond.code yX7_spread cX7_spread 7 (some .int) :: wG)) B.pre w (List.mem_cons_of_mem _ h)
  have hown : s.vm.findClass RX7 = some m.cls := findClass_of_methodNamed B.named
  have hlocks := B.notSynchronized
  have hS9 : CallFix p m c cX7_spread 7 s args wG RX7 := ⟨hx, hb, hml, hown, hts⟩
  have hw0 := hts _ mw_1_85
  have hw1 := hts _ mw_1_84
  have hf9 : entryFrame m args 7 = _ := (congrArg (fun a => entryFrame m a 7) hargs).trans (lg_entry_eq m [.ref (g.2.1 20), .ref (g.2.1 10), .int x2] 7)
  show Wg p l e 2 45 s m args below meth c g (some (.int r)) (mkS σ [] [] [(22, w_layers), (23, w_reached), (21, w_steps)] []) s.heap [] (entryFrame m args 7)
  rw [hf9]
  have hl := lv_entry ([.ref (g.2.1 20), .ref (g.2.1 10), .int x2]) (n := 7) (Nat.le_of_ble_eq_true rfl)
  generalize (lg_sl ([.ref (g.2.1 20), .ref (g.2.1 10), .int x2]) ++ List.replicate (7 - (lg_sl ([.ref (g.2.1 20), .ref (g.2.1 10), .int x2])).length) Slot.unset).toArray = ls at hl ⊢
  have hl : lv_has ls 7 [(0, .ref (g.2.1 20)), (1, .ref (g.2.1 10)), (2, .int x2)] := hl
  have hG : GW g s σ s.heap [] := ⟨hP0, va_S.rf⟩
  have hG : GW g s (mkS σ [] [] [(22, (σ.2.2.1 22)), (23, (σ.2.2.1 23)), (21, (σ.2.2.1 21))] []) s.heap [] := GW_self [] [] [22, 23, 21] [] hG
  unfold Wy_spread at h
  have n72 : ∀ (x2 : Int32) (x4 : Int32) (x5 : Int32) (v_layers : Nat → Int32) (v_reached : Nat → Int32) (v_steps : Nat → Int32) (H : Heap) (locs : List Loc) (ls : Array Slot), lv_has ls 7 [(0, .ref (g.2.1 20)), (2, .int x2), (4, .int x4), (5, .int x5)] → GW g s (mkS σ [] [] [(22, v_layers), (23, v_reached), (21, v_steps)] []) H locs → Wy_spread_n72 x2 x4 x5 v_layers v_reached v_steps = some (r, w_layers, w_reached, w_steps) → Wg p l e 2 45 s m args below meth c g (some (.int r)) (mkS σ [] [] [(22, w_layers), (23, w_reached), (21, w_steps)] []) H locs (F0 m 72 ls []) := by
    intro x2 x4 x5 v_layers v_reached v_steps H locs ls hl hG h
    unfold Wy_spread_n72 at h
    refine lv_aload_n hx hb dX7_spread_72 rfl (lv_at hl 0 rfl) ?_
    refine gx_get (v := .ref (g.2.1 23)) (C := RX7) (T := TX7) (N := 7) hx hb hts mc_X7 hown hK hG (ga_20 g _) rfl 2 (by decide) hw0 rfl rfl dX7_spread_73 ?_
    refine lv_iload_n hx hb dX7_spread_76 rfl (lv_at hl 1 rfl) ?_
    refine lv_iload hx hb dX7_spread_77 (lv_at hl 2 rfl) ?_
    obtain ⟨hg1, h⟩ := gd_some h
    refine gx_iast (σ' := (mkS σ [] [] [(22, v_layers), (23, (upd v_reached (x2.toNatClampNeg) x4)), (21, v_steps)] [])) (f := v_reached) hx hb hK hG (ga_23 g _) hg1 ((gs_23 g _ _).trans (congrArg (g_cells g) (mk_c 1 rfl rfl))) dX7_spread_79 (fun H locs hG => ?_)
    refine lv_iload hx hb dX7_spread_80 (lv_at hl 3 rfl) ?_
    cases h
    exact gx_iret hx hb hr hlocks hG dX7_spread_82
  have n13 : ∀ (k13 : Int32 → Int32 → Int32 → Int32 → Int32 → (Nat → Int32) → (Nat → Int32) → (Nat → Int32) → Option (Int32 × (Nat → Int32) × (Nat → Int32) × (Nat → Int32))) (hk13 : ∀ (x2 : Int32) (x3 : Int32) (x4 : Int32) (x5 : Int32) (x6 : Int32) (v_layers : Nat → Int32) (v_reached : Nat → Int32) (v_steps : Nat → Int32) (H : Heap) (locs : List Loc) (ls : Array Slot), lv_has ls 7 [(0, .ref (g.2.1 20)), (1, .ref (g.2.1 10)), (2, .int x2), (3, .int x3), (4, .int x4), (5, .int x5), (6, .int x6)] → GW g s (mkS σ [] [] [(22, v_layers), (23, v_reached), (21, v_steps)] []) H locs → k13 x2 x3 x4 x5 x6 v_layers v_reached v_steps = some (r, w_layers, w_reached, w_steps) → Wg p l e 2 45 s m args below meth c g (some (.int r)) (mkS σ [] [] [(22, w_layers), (23, w_reached), (21, w_steps)] []) H locs (F0 m 13 ls [])) (x2 : Int32) (x3 : Int32) (x4 : Int32) (x5 : Int32) (x6 : Int32) (v_layers : Nat → Int32) (v_reached : Nat → Int32) (v_steps : Nat → Int32) (H : Heap) (locs : List Loc) (ls : Array Slot), lv_has ls 7 [(0, .ref (g.2.1 20)), (1, .ref (g.2.1 10)), (2, .int x2), (3, .int x3), (4, .int x4), (5, .int x5), (6, .int x6)] → GW g s (mkS σ [] [] [(22, v_layers), (23, v_reached), (21, v_steps)] []) H locs → Wy_spread_n13 k13 (σ.1 641) (σ.1 1285) (σ.2.2.1 11) x2 x3 x4 x5 x6 v_layers v_reached v_steps = some (r, w_layers, w_reached, w_steps) → Wg p l e 2 45 s m args below meth c g (some (.int r)) (mkS σ [] [] [(22, w_layers), (23, w_reached), (21, w_steps)] []) H locs (F0 m 13 ls []) := by
    intro k13 hk13 x2 x3 x4 x5 x6 v_layers v_reached v_steps H locs ls hl hG h
    unfold Wy_spread_n13 at h
    refine lv_iload hx hb dX7_spread_13 (lv_at hl 6 rfl) ?_
    refine lv_bipush (v := (32 : Int32)) hx hb dX7_spread_15 (by decide) ?_
    refine lv_icmp_ge (tgt := 72) hx hb dX7_spread_17 (by decide) (fun c2 => ?_) (fun c2 => ?_)
    · have h := ite_t c2 h
      exact n72 x2 x4 x5 v_layers v_reached v_steps _ _ _ (lv_sub hl [0, 2, 4, 5] rfl) hG h
    · have h := ite_f c2 h
      refine lv_iload_n hx hb dX7_spread_20 rfl (lv_at hl 3 rfl) ?_
      refine lv_if_eq (tgt := 72) hx hb dX7_spread_21 (by decide) (fun c3 => ?_) (fun c3 => ?_)
      · have h := ite_t c3 h
        exact n72 x2 x4 x5 v_layers v_reached v_steps _ _ _ (lv_sub hl [0, 2, 4, 5] rfl) hG h
      · have h := ite_f c3 h
        refine lv_aload_n hx hb dX7_spread_24 rfl (lv_at hl 0 rfl) ?_
        refine gx_get (v := .ref (g.2.1 22)) (C := RX7) (T := TX7) (N := 7) hx hb hts mc_X7 hown hK hG (ga_20 g _) rfl 1 (by decide) hw1 rfl rfl dX7_spread_25 ?_
        refine lv_iload_n hx hb dX7_spread_28 rfl (lv_at hl 2 rfl) ?_
        refine lv_bipush (v := (32 : Int32)) hx hb dX7_spread_29 (by decide) ?_
        refine lv_imul hx hb dX7_spread_31 ?_
        refine lv_iload hx hb dX7_spread_32 (lv_at hl 6 rfl) ?_
        refine lv_iadd hx hb dX7_spread_34 ?_
        refine lv_iload_n hx hb dX7_spread_35 rfl (lv_at hl 3 rfl) ?_
        obtain ⟨hg4, h⟩ := gd_some h
        refine gx_iast (σ' := (mkS σ [] [] [(22, (upd v_layers (((x2 * (32 : Int32)) + x6).toNatClampNeg) x3)), (23, v_reached), (21, v_steps)] [])) (f := v_layers) hx hb hK hG (ga_22 g _) hg4 ((gs_22 g _ _).trans (congrArg (g_cells g) (mk_c 0 rfl rfl))) dX7_spread_36 (fun H locs hG => ?_)
        refine lv_aload_n hx hb dX7_spread_37 rfl (lv_at hl 0 rfl) ?_
        refine lv_iload_n hx hb dX7_spread_38 rfl (lv_at hl 2 rfl) ?_
        refine lv_iload_n hx hb dX7_spread_39 rfl (lv_at hl 3 rfl) ?_
        refine lv_iload hx hb dX7_spread_40 (lv_at hl 6 rfl) ?_
        obtain ⟨z5, hc6, h⟩ := bnd_some h
        refine gx_cV (σ' := (mkS σ [] [] [(22, (upd v_layers (((x2 * (32 : Int32)) + x6).toNatClampNeg) x3)), (23, v_reached), (21, z5)] [])) (r := none) (rest := []) (As := [.int x2, .int x3, .int x6]) hS9 (c_Wy_noteSteps l g (mkS σ [] [] [(22, (upd v_layers (((x2 * (32 : Int32)) + x6).toNatClampNeg) x3)), (23, v_reached), (21, v_steps)] []) x2 x3 x6 z5 hc6) (mk_mk rfl rfl rfl rfl) (cwV 3 hts (gz_V mw_3_18 mw_3_20 ms_1_8 mw_1_5 mw_3_21) rfl rfl rfl hdV_X7_noteSteps ⟨Nat.le_of_ble_eq_true rfl, Nat.le_of_ble_eq_true rfl⟩) hK hG (ga_20 g _) rfl rfl rfl hl.1 rfl (Nat.le_of_ble_eq_true rfl) dX7_spread_42 (fun H locs hG => ?_)
        refine W.eq (g2 := F0 m 45 ls []) rfl ?_
        refine lv_iload hx hb dX7_spread_45 (lv_at hl 6 rfl) ?_
        refine lv_istore (lv' := [(5, .int x6), (0, .ref (g.2.1 20)), (1, .ref (g.2.1 10)), (2, .int x2), (3, .int x3), (4, .int x4), (6, .int x6)]) hx hb dX7_spread_47 hl (Nat.le_of_ble_eq_true rfl) rfl (fun ls hl => ?_)
        refine lv_aload_n hx hb dX7_spread_49 rfl (lv_at hl 2 rfl) ?_
        refine lv_iload_n hx hb dX7_spread_50 rfl (lv_at hl 4 rfl) ?_
        obtain ⟨z7, hc8, h⟩ := bnd_some h
        refine gx_cV (σ' := (mkS σ [] [] [(22, (upd v_layers (((x2 * (32 : Int32)) + x6).toNatClampNeg) x3)), (23, v_reached), (21, z5)] [])) (r := (some (.int z7))) (rest := []) (As := [.int x3]) hS9 (c_Net_around_10 l g (mkS σ [] [] [(22, (upd v_layers (((x2 * (32 : Int32)) + x6).toNatClampNeg) x3)), (23, v_reached), (21, z5)] []) x3 z7 hc8) rfl (cwV 1 hts (gz_V mw_3_23 mw_3_24 mw_3_25 mw_1_3 mw_3_26) rfl rfl rfl hdV_X2_around ⟨Nat.le_of_ble_eq_true rfl, Nat.le_of_ble_eq_true rfl⟩) hK hG (ga_10 g _) rfl rfl rfl hl.1 rfl (Nat.le_of_ble_eq_true rfl) dX7_spread_51 (fun H locs hG => ?_)
        refine W.eq (g2 := F0 m 54 ls [.int z7]) rfl ?_
        refine lv_iload hx hb dX7_spread_54 (lv_at hl 5 rfl) ?_
        refine lv_iconst (v := (-1 : Int32)) hx hb dX7_spread_56 (by decide) ?_
        refine lv_ixor hx hb dX7_spread_57 ?_
        refine lv_iand hx hb dX7_spread_58 ?_
        refine lv_istore_n (lv' := [(3, .int (z7 &&& (x4 ^^^ (-1 : Int32)))), (5, .int x6), (0, .ref (g.2.1 20)), (1, .ref (g.2.1 10)), (2, .int x2), (4, .int x4), (6, .int x6)]) hx hb dX7_spread_59 rfl hl (Nat.le_of_ble_eq_true rfl) rfl (fun ls hl => ?_)
        refine lv_iload hx hb dX7_spread_60 (lv_at hl 5 rfl) ?_
        refine lv_iload_n hx hb dX7_spread_62 rfl (lv_at hl 0 rfl) ?_
        refine lv_ior hx hb dX7_spread_63 ?_
        refine lv_topi (fun y9 ey9 => ?_)
        have h := lt_at h ey9
        refine lv_istore (lv' := [(4, .int y9), (3, .int (z7 &&& (x4 ^^^ (-1 : Int32)))), (5, .int x6), (0, .ref (g.2.1 20)), (1, .ref (g.2.1 10)), (2, .int x2), (6, .int x6)]) hx hb dX7_spread_64 hl (Nat.le_of_ble_eq_true rfl) rfl (fun ls hl => ?_)
        refine lv_iinc (v := (x6 + (1 : Int32))) (lv' := [(6, .int (x6 + (1 : Int32))), (4, .int y9), (3, .int (z7 &&& (x4 ^^^ (-1 : Int32)))), (5, .int x6), (0, .ref (g.2.1 20)), (1, .ref (g.2.1 10)), (2, .int x2)]) hx hb dX7_spread_66 hl (k := 6) rfl (congrArg (fun z => x6 + z) (by decide)) (Nat.le_of_ble_eq_true rfl) rfl (fun ls hl => ?_)
        refine lv_goto (tgt := 13) hx hb dX7_spread_69 (by decide) ?_
        exact hk13 x2 (z7 &&& (x4 ^^^ (-1 : Int32))) y9 x6 (x6 + (1 : Int32)) (upd v_layers (((x2 * (32 : Int32)) + x6).toNatClampNeg) x3) v_reached z5 _ _ _ (lv_sub hl [4, 5, 6, 2, 1, 3, 0] rfl) hG h
  have l13 : ∀  (F : Nat) (x2 : Int32) (x3 : Int32) (x4 : Int32) (x5 : Int32) (x6 : Int32) (v_layers : Nat → Int32) (v_reached : Nat → Int32) (v_steps : Nat → Int32) (H : Heap) (locs : List Loc) (ls : Array Slot), lv_has ls 7 [(0, .ref (g.2.1 20)), (1, .ref (g.2.1 10)), (2, .int x2), (3, .int x3), (4, .int x4), (5, .int x5), (6, .int x6)] → GW g s (mkS σ [] [] [(22, v_layers), (23, v_reached), (21, v_steps)] []) H locs → Wy_spread_l13 (σ.1 641) (σ.1 1285) (σ.2.2.1 11) F x2 x3 x4 x5 x6 v_layers v_reached v_steps = some (r, w_layers, w_reached, w_steps) → Wg p l e 2 45 s m args below meth c g (some (.int r)) (mkS σ [] [] [(22, w_layers), (23, w_reached), (21, w_steps)] []) H locs (F0 m 13 ls []) := by
    intro F
    induction F with
    | zero => intro x2 x3 x4 x5 x6 v_layers v_reached v_steps H locs ls hl hG h; exact no_some h
    | succ F ih => intro x2 x3 x4 x5 x6 v_layers v_reached v_steps H locs ls hl hG h; exact n13 (fun x2 x3 x4 x5 x6 v_layers v_reached v_steps => Wy_spread_l13 (σ.1 641) (σ.1 1285) (σ.2.2.1 11) F x2 x3 x4 x5 x6 v_layers v_reached v_steps) ih x2 x3 x4 x5 x6 v_layers v_reached v_steps H locs ls hl hG h
  refine lv_iconst (v := (1 : Int32)) hx hb dX7_spread_0 (by decide) ?_
  refine lv_iload_n hx hb dX7_spread_1 rfl (lv_at hl 2 rfl) ?_
  refine lv_ishl hx hb dX7_spread_2 ?_
  refine lv_istore_n (lv' := [(3, .int ((1 : Int32) <<< (x2 &&& 31))), (0, .ref (g.2.1 20)), (1, .ref (g.2.1 10)), (2, .int x2)]) hx hb dX7_spread_3 rfl hl (Nat.le_of_ble_eq_true rfl) rfl (fun ls hl => ?_)
  refine lv_iload_n hx hb dX7_spread_4 rfl (lv_at hl 0 rfl) ?_
  refine lv_istore (lv' := [(4, .int ((1 : Int32) <<< (x2 &&& 31))), (3, .int ((1 : Int32) <<< (x2 &&& 31))), (0, .ref (g.2.1 20)), (1, .ref (g.2.1 10)), (2, .int x2)]) hx hb dX7_spread_5 hl (Nat.le_of_ble_eq_true rfl) rfl (fun ls hl => ?_)
  refine lv_iconst (v := (0 : Int32)) hx hb dX7_spread_7 (by decide) ?_
  refine lv_istore (lv' := [(5, .int (0 : Int32)), (4, .int ((1 : Int32) <<< (x2 &&& 31))), (3, .int ((1 : Int32) <<< (x2 &&& 31))), (0, .ref (g.2.1 20)), (1, .ref (g.2.1 10)), (2, .int x2)]) hx hb dX7_spread_8 hl (Nat.le_of_ble_eq_true rfl) rfl (fun ls hl => ?_)
  refine lv_iconst (v := (0 : Int32)) hx hb dX7_spread_10 (by decide) ?_
  refine lv_istore (lv' := [(6, .int (0 : Int32)), (5, .int (0 : Int32)), (4, .int ((1 : Int32) <<< (x2 &&& 31))), (3, .int ((1 : Int32) <<< (x2 &&& 31))), (0, .ref (g.2.1 20)), (1, .ref (g.2.1 10)), (2, .int x2)]) hx hb dX7_spread_11 hl (Nat.le_of_ble_eq_true rfl) rfl (fun ls hl => ?_)
  exact l13 FUEL x2 ((1 : Int32) <<< (x2 &&& 31)) ((1 : Int32) <<< (x2 &&& 31)) (0 : Int32) (0 : Int32) (σ.2.2.1 22) (σ.2.2.1 23) (σ.2.2.1 21) _ _ _ (lv_sub hl [4, 5, 6, 3, 2, 1, 0] rfl) hG h

set_option maxHeartbeats 4000000 in
set_option maxRecDepth 100000 in
theorem c_LN_allOf (l : Launch) (g : GC) (σ : St) (x0 : Int32) (r : Int32) (h : LN_allOf x0 = some r) : Cn l g yX8_allOf (Cond.code yX8_allOf cX8_allOf 1 (some .int) :: wG) 0 0 [.int x0] σ (some (.int r)) σ := by
  unfold Cn
  refine Met.ofW (cc := cX8_allOf) (maxL := 1) (ret := (some .int)) (by decide) rfl ?_
  intro p e s m args below meth c s₁ B hml hv
  obtain ⟨hargs, hP0, hK⟩ := hv
  have hx := B.exec
  have hb := B.bytes
  have hr := B.returns
  have hts : ∀ w ∈ wG, w.before args s = true := fun w h => atoms_spec (ws := (Cond.code yX8_allOf cX8_allOf 1 (some .int) :: wG)) B.pre w (List.mem_cons_of_mem _ h)
  have hown : s.vm.findClass RX8 = some m.cls := findClass_of_methodNamed B.named
  have hlocks := B.notSynchronized
  have hf9 : entryFrame m args 1 = _ := (congrArg (fun a => entryFrame m a 1) hargs).trans (lg_entry_eq m [.int x0] 1)
  show Wg p l e 0 0 s m args below meth c g (some (.int r)) σ s.heap [] (entryFrame m args 1)
  rw [hf9]
  have hl := lv_entry ([.int x0]) (n := 1) (Nat.le_of_ble_eq_true rfl)
  generalize (lg_sl ([.int x0]) ++ List.replicate (1 - (lg_sl ([.int x0])).length) Slot.unset).toArray = ls at hl ⊢
  have hl : lv_has ls 1 [(0, .int x0)] := hl
  have hG : GW g s σ s.heap [] := ⟨hP0, va_S.rf⟩
  unfold LN_allOf at h
  have n14 : ∀ (t0 : Int32) (H : Heap) (locs : List Loc) (ls : Array Slot), lv_has ls 1 [] → GW g s σ H locs → LN_allOf_n14 t0 = some r → Wg p l e 0 0 s m args below meth c g (some (.int r)) σ H locs (F0 m 14 ls [.int t0]) := by
    intro t0 H locs ls hl hG h
    unfold LN_allOf_n14 at h
    cases h
    exact gx_iret hx hb hr hlocks hG dX8_allOf_14
  refine lv_iload_n hx hb dX8_allOf_0 rfl (lv_at hl 0 rfl) ?_
  refine lv_if_gt (tgt := 8) hx hb dX8_allOf_1 (by decide) (fun c1 => ?_) (fun c1 => ?_)
  · have h := ite_t c1 h
    refine lv_iconst (v := (-1 : Int32)) hx hb dX8_allOf_8 (by decide) ?_
    refine lv_bipush (v := (32 : Int32)) hx hb dX8_allOf_9 (by decide) ?_
    refine lv_iload_n hx hb dX8_allOf_11 rfl (lv_at hl 0 rfl) ?_
    refine lv_isub hx hb dX8_allOf_12 ?_
    refine lv_iushr hx hb dX8_allOf_13 rfl ?_
    exact n14 (((-1 : Int32).toUInt32 >>> (((32 : Int32) - x0).toUInt32 &&& Int32.toUInt32 31)).toInt32) _ _ _ (lv_sub hl [] rfl) hG h
  · have h := ite_f c1 h
    refine lv_iconst (v := (0 : Int32)) hx hb dX8_allOf_4 (by decide) ?_
    refine lv_goto (tgt := 14) hx hb dX8_allOf_5 (by decide) ?_
    exact n14 (0 : Int32) _ _ _ (lv_sub hl [] rfl) hG h

set_option maxHeartbeats 4000000 in
set_option maxRecDepth 100000 in
theorem c_Wy_measure (l : Launch) (g : GC) (σ : St) (w_far : Int32) (w_ready : Int32) (w_size : Int32) (w_whole : Int32) (w_layers : Nat → Int32) (w_reached : Nat → Int32) (w_steps : Nat → Int32) (h : Wy_measure (σ.1 1286) (σ.1 641) (σ.1 1283) (σ.1 1285) (σ.1 1284) (σ.2.2.1 22) (σ.2.2.1 11) (σ.2.2.1 23) (σ.2.2.1 21) = some (w_far, w_ready, w_size, w_whole, w_layers, w_reached, w_steps)) : Cn l g yX7_measure (Cond.code yX7_measure cX7_measure 4 none :: wG) 3 71 [.ref (g.2.1 20), .ref (g.2.1 10)] σ none (mkS σ [(1286, w_far), (1283, w_ready), (1285, w_size), (1284, w_whole)] [] [(22, w_layers), (23, w_reached), (21, w_steps)] []) := by
  unfold Cn
  refine Met.ofW (cc := cX7_measure) (maxL := 4) (ret := none) (by decide) rfl ?_
  intro p e s m args below meth c s₁ B hml hv
  obtain ⟨hargs, hP0, hK⟩ := hv
  have hx := B.exec
  have hb := B.bytes
  have hr := B.returns
  have hts : ∀ w ∈ wG, w.before args s = true := fun w h => atoms_spec (ws := (Cond.code yX7_measure cX7_measure 4 none :: wG)) B.pre w (List.mem_cons_of_mem _ h)
  have hown : s.vm.findClass RX7 = some m.cls := findClass_of_methodNamed B.named
  have hlocks := B.notSynchronized
  have hS9 : CallFix p m c cX7_measure 4 s args wG RX7 := ⟨hx, hb, hml, hown, hts⟩
  have hw0 := hts _ mw_1_92
  have hw1 := hts _ mw_1_86
  have hw2 := hts _ mw_1_89
  have hw3 := hts _ mw_1_91
  have hw4 := hts _ mw_1_85
  have hw5 := hts _ mw_1_1
  have hw6 := hts _ mw_3_31
  have hw7 := hts _ mw_3_27
  have hw8 := hts _ mw_3_28
  have hw9 := hts _ mw_1_15
  have hw10 := hts _ mw_3_29
  have hw11 := hts _ mw_1_57
  have hw12 := hts _ mw_1_83
  have hw13 := hts _ mw_1_84
  have hf9 : entryFrame m args 4 = _ := (congrArg (fun a => entryFrame m a 4) hargs).trans (lg_entry_eq m [.ref (g.2.1 20), .ref (g.2.1 10)] 4)
  show Wg p l e 3 71 s m args below meth c g none (mkS σ [(1286, w_far), (1283, w_ready), (1285, w_size), (1284, w_whole)] [] [(22, w_layers), (23, w_reached), (21, w_steps)] []) s.heap [] (entryFrame m args 4)
  rw [hf9]
  have hl := lv_entry ([.ref (g.2.1 20), .ref (g.2.1 10)]) (n := 4) (Nat.le_of_ble_eq_true rfl)
  generalize (lg_sl ([.ref (g.2.1 20), .ref (g.2.1 10)]) ++ List.replicate (4 - (lg_sl ([.ref (g.2.1 20), .ref (g.2.1 10)])).length) Slot.unset).toArray = ls at hl ⊢
  have hl : lv_has ls 4 [(0, .ref (g.2.1 20)), (1, .ref (g.2.1 10))] := hl
  have hG : GW g s σ s.heap [] := ⟨hP0, va_S.rf⟩
  have hG : GW g s (mkS σ [(1286, (σ.1 1286)), (1283, (σ.1 1283)), (1285, (σ.1 1285)), (1284, (σ.1 1284))] [] [(22, (σ.2.2.1 22)), (23, (σ.2.2.1 23)), (21, (σ.2.2.1 21))] []) s.heap [] := GW_self [1286, 1283, 1285, 1284] [] [22, 23, 21] [] hG
  unfold Wy_measure at h
  have n98 : ∀ (t1 : Int32) (v_far : Int32) (v_ready : Int32) (v_size : Int32) (v_whole : Int32) (v_layers : Nat → Int32) (v_reached : Nat → Int32) (v_steps : Nat → Int32) (H : Heap) (locs : List Loc) (ls : Array Slot), lv_has ls 4 [(0, .ref (g.2.1 20))] → GW g s (mkS σ [(1286, v_far), (1283, v_ready), (1285, v_size), (1284, v_whole)] [] [(22, v_layers), (23, v_reached), (21, v_steps)] []) H locs → Wy_measure_n98 t1 v_far v_ready v_size v_whole v_layers v_reached v_steps = some (w_far, w_ready, w_size, w_whole, w_layers, w_reached, w_steps) → Wg p l e 3 71 s m args below meth c g none (mkS σ [(1286, w_far), (1283, w_ready), (1285, w_size), (1284, w_whole)] [] [(22, w_layers), (23, w_reached), (21, w_steps)] []) H locs (F0 m 98 ls [.int t1, .ref (g.2.1 20)]) := by
    intro t1 v_far v_ready v_size v_whole v_layers v_reached v_steps H locs ls hl hG h
    unfold Wy_measure_n98 at h
    refine gx_put (σ' := (mkS σ [(1286, t1), (1283, v_ready), (1285, v_size), (1284, v_whole)] [] [(22, v_layers), (23, v_reached), (21, v_steps)] [])) (C := RX7) (T := TX7) (N := 7) hx hb hts mc_X7 tyX7 tyX7_ok nmX7 hown hK hG (ga_20 g _) rfl 6 (by decide) hw0 rfl rfl rfl rfl (Nat.le_of_ble_eq_true rfl) ((gf_1286 g _ _).trans (congrArg (g_cells g) (mk_a 0 rfl rfl))) dX7_measure_98 (fun H locs hG => ?_)
    refine lv_aload_n hx hb dX7_measure_101 rfl (lv_at hl 0 rfl) ?_
    refine lv_iconst (v := (1 : Int32)) hx hb dX7_measure_102 (by decide) ?_
    refine gx_put (σ' := (mkS σ [(1286, t1), (1283, (1 : Int32)), (1285, v_size), (1284, v_whole)] [] [(22, v_layers), (23, v_reached), (21, v_steps)] [])) (C := RX7) (T := TX7) (N := 7) hx hb hts mc_X7 tyX7 tyX7_ok nmX7 hown hK hG (ga_20 g _) rfl 3 (by decide) hw1 rfl rfl (isb_n (by decide)) (isb_f (by decide)) (Nat.le_of_ble_eq_true rfl) ((gf_1283 g _ _).trans (congrArg (g_cells g) (mk_a 1 rfl rfl))) dX7_measure_103 (fun H locs hG => ?_)
    cases h
    exact gx_vret hx hb hr hlocks hG dX7_measure_106
  have n82 : ∀ (x2 : Int32) (t1 : Int32) (v_far : Int32) (v_ready : Int32) (v_size : Int32) (v_whole : Int32) (v_layers : Nat → Int32) (v_reached : Nat → Int32) (v_steps : Nat → Int32) (H : Heap) (locs : List Loc) (ls : Array Slot), lv_has ls 4 [(0, .ref (g.2.1 20)), (2, .int x2)] → GW g s (mkS σ [(1286, v_far), (1283, v_ready), (1285, v_size), (1284, v_whole)] [] [(22, v_layers), (23, v_reached), (21, v_steps)] []) H locs → Wy_measure_n82 x2 t1 v_far v_ready v_size v_whole v_layers v_reached v_steps = some (w_far, w_ready, w_size, w_whole, w_layers, w_reached, w_steps) → Wg p l e 3 71 s m args below meth c g none (mkS σ [(1286, w_far), (1283, w_ready), (1285, w_size), (1284, w_whole)] [] [(22, w_layers), (23, w_reached), (21, w_steps)] []) H locs (F0 m 82 ls [.int t1, .ref (g.2.1 20)]) := by
    intro x2 t1 v_far v_ready v_size v_whole v_layers v_reached v_steps H locs ls hl hG h
    unfold Wy_measure_n82 at h
    obtain ⟨hg1, h⟩ := gd_some h
    refine gx_put (σ' := (mkS σ [(1286, v_far), (1283, v_ready), (1285, v_size), (1284, t1)] [] [(22, v_layers), (23, v_reached), (21, v_steps)] [])) (C := RX7) (T := TX7) (N := 7) hx hb hts mc_X7 tyX7 tyX7_ok nmX7 hown hK hG (ga_20 g _) rfl 4 (by decide) hw2 rfl rfl (isb_n hg1) (isb_f hg1) (Nat.le_of_ble_eq_true rfl) ((gf_1284 g _ _).trans (congrArg (g_cells g) (mk_a 3 rfl rfl))) dX7_measure_82 (fun H locs hG => ?_)
    refine lv_aload_n hx hb dX7_measure_85 rfl (lv_at hl 0 rfl) ?_
    refine lv_aload_n hx hb dX7_measure_86 rfl (lv_at hl 0 rfl) ?_
    refine gx_get (v := .int t1) (C := RX7) (T := TX7) (N := 7) hx hb hts mc_X7 hown hK hG (ga_20 g _) rfl 4 (by decide) hw2 rfl rfl dX7_measure_87 ?_
    refine lv_if_eq (tgt := 97) hx hb dX7_measure_90 (by decide) (fun c2 => ?_) (fun c2 => ?_)
    · have h := ite_t c2 h
      refine lv_iconst (v := (-1 : Int32)) hx hb dX7_measure_97 (by decide) ?_
      exact n98 (-1 : Int32) v_far v_ready v_size t1 v_layers v_reached v_steps _ _ _ (lv_sub hl [0] rfl) hG h
    · have h := ite_f c2 h
      refine lv_iload_n hx hb dX7_measure_93 rfl (lv_at hl 1 rfl) ?_
      refine lv_goto (tgt := 98) hx hb dX7_measure_94 (by decide) ?_
      exact n98 x2 v_far v_ready v_size t1 v_layers v_reached v_steps _ _ _ (lv_sub hl [0] rfl) hG h
  have n81 : ∀ (x2 : Int32) (v_far : Int32) (v_ready : Int32) (v_size : Int32) (v_whole : Int32) (v_layers : Nat → Int32) (v_reached : Nat → Int32) (v_steps : Nat → Int32) (H : Heap) (locs : List Loc) (ls : Array Slot), lv_has ls 4 [(0, .ref (g.2.1 20)), (2, .int x2)] → GW g s (mkS σ [(1286, v_far), (1283, v_ready), (1285, v_size), (1284, v_whole)] [] [(22, v_layers), (23, v_reached), (21, v_steps)] []) H locs → Wy_measure_n81 x2 v_far v_ready v_size v_whole v_layers v_reached v_steps = some (w_far, w_ready, w_size, w_whole, w_layers, w_reached, w_steps) → Wg p l e 3 71 s m args below meth c g none (mkS σ [(1286, w_far), (1283, w_ready), (1285, w_size), (1284, w_whole)] [] [(22, w_layers), (23, w_reached), (21, w_steps)] []) H locs (F0 m 81 ls [.ref (g.2.1 20)]) := by
    intro x2 v_far v_ready v_size v_whole v_layers v_reached v_steps H locs ls hl hG h
    unfold Wy_measure_n81 at h
    refine lv_iconst (v := (0 : Int32)) hx hb dX7_measure_81 (by decide) ?_
    exact n82 x2 (0 : Int32) v_far v_ready v_size v_whole v_layers v_reached v_steps _ _ _ (lv_sub hl [0, 1] rfl) hG h
  have n53 : ∀ (x2 : Int32) (v_far : Int32) (v_ready : Int32) (v_size : Int32) (v_whole : Int32) (v_layers : Nat → Int32) (v_reached : Nat → Int32) (v_steps : Nat → Int32) (H : Heap) (locs : List Loc) (ls : Array Slot), lv_has ls 4 [(0, .ref (g.2.1 20)), (2, .int x2)] → GW g s (mkS σ [(1286, v_far), (1283, v_ready), (1285, v_size), (1284, v_whole)] [] [(22, v_layers), (23, v_reached), (21, v_steps)] []) H locs → Wy_measure_n53 x2 v_far v_ready v_size v_whole v_layers v_reached v_steps = some (w_far, w_ready, w_size, w_whole, w_layers, w_reached, w_steps) → Wg p l e 3 71 s m args below meth c g none (mkS σ [(1286, w_far), (1283, w_ready), (1285, w_size), (1284, w_whole)] [] [(22, w_layers), (23, w_reached), (21, w_steps)] []) H locs (F0 m 53 ls []) := by
    intro x2 v_far v_ready v_size v_whole v_layers v_reached v_steps H locs ls hl hG h
    unfold Wy_measure_n53 at h
    refine lv_aload_n hx hb dX7_measure_53 rfl (lv_at hl 0 rfl) ?_
    refine lv_aload_n hx hb dX7_measure_54 rfl (lv_at hl 0 rfl) ?_
    refine gx_get (v := .int v_size) (C := RX7) (T := TX7) (N := 7) hx hb hts mc_X7 hown hK hG (ga_20 g _) rfl 5 (by decide) hw3 rfl rfl dX7_measure_55 ?_
    refine lv_if_le (tgt := 81) hx hb dX7_measure_58 (by decide) (fun c3 => ?_) (fun c3 => ?_)
    · have h := ite_t c3 h
      exact n81 x2 v_far v_ready v_size v_whole v_layers v_reached v_steps _ _ _ (lv_sub hl [0, 1] rfl) hG h
    · have h := ite_f c3 h
      refine lv_aload_n hx hb dX7_measure_61 rfl (lv_at hl 0 rfl) ?_
      refine gx_get (v := .ref (g.2.1 23)) (C := RX7) (T := TX7) (N := 7) hx hb hts mc_X7 hown hK hG (ga_20 g _) rfl 2 (by decide) hw4 rfl rfl dX7_measure_62 ?_
      refine lv_iconst (v := (0 : Int32)) hx hb dX7_measure_65 (by decide) ?_
      refine gx_iald (f := v_reached) hx hb hK hG (ga_23 g _) (by decide) dX7_measure_66 ?_
      refine lv_aload_n hx hb dX7_measure_67 rfl (lv_at hl 0 rfl) ?_
      refine gx_get (v := .int v_size) (C := RX7) (T := TX7) (N := 7) hx hb hts mc_X7 hown hK hG (ga_20 g _) rfl 5 (by decide) hw3 rfl rfl dX7_measure_68 ?_
      obtain ⟨z4, hc5, h⟩ := bnd_some h
      refine gx_cN (σ' := (mkS σ [(1286, v_far), (1283, v_ready), (1285, v_size), (1284, v_whole)] [] [(22, v_layers), (23, v_reached), (21, v_steps)] [])) (r := (some (.int z4))) (rest := [.int (v_reached ((0 : Int32).toNatClampNeg)), .ref (g.2.1 20)]) (As := [.int v_size]) hS9 (c_LN_allOf l g (mkS σ [(1286, v_far), (1283, v_ready), (1285, v_size), (1284, v_whole)] [] [(22, v_layers), (23, v_reached), (21, v_steps)] []) v_size z4 hc5) rfl (va_cnB 1 hts (gz_N mw_3_32) rfl rfl rfl (hK.2.2 _ (List.mem_of_getElem? (i := 4) rfl)) hw5 hdS_X8_allOf ⟨Nat.le_of_ble_eq_true rfl, Nat.le_of_ble_eq_true rfl⟩) hw6 hK hG rfl hl.1 rfl (Nat.le_of_ble_eq_true rfl) dX7_measure_71 (fun H locs hG => ?_)
      refine W.eq (g2 := F0 m 74 ls [.int z4, .int (v_reached ((0 : Int32).toNatClampNeg)), .ref (g.2.1 20)]) rfl ?_
      refine lv_icmp_ne (tgt := 81) hx hb dX7_measure_74 (by decide) (fun c6 => ?_) (fun c6 => ?_)
      · have h := ite_f c6 h
        exact n81 x2 v_far v_ready v_size v_whole v_layers v_reached v_steps _ _ _ (lv_sub hl [0, 1] rfl) hG h
      · have h := ite_t c6 h
        refine lv_iconst (v := (1 : Int32)) hx hb dX7_measure_77 (by decide) ?_
        refine lv_goto (tgt := 82) hx hb dX7_measure_78 (by decide) ?_
        exact n82 x2 (1 : Int32) v_far v_ready v_size v_whole v_layers v_reached v_steps _ _ _ (lv_sub hl [0, 1] rfl) hG h
  have n28 : ∀ (k28 : Int32 → Int32 → Int32 → Int32 → Int32 → Int32 → (Nat → Int32) → (Nat → Int32) → (Nat → Int32) → Option (Int32 × Int32 × Int32 × Int32 × (Nat → Int32) × (Nat → Int32) × (Nat → Int32))) (hk28 : ∀ (x2 : Int32) (x3 : Int32) (v_far : Int32) (v_ready : Int32) (v_size : Int32) (v_whole : Int32) (v_layers : Nat → Int32) (v_reached : Nat → Int32) (v_steps : Nat → Int32) (H : Heap) (locs : List Loc) (ls : Array Slot), lv_has ls 4 [(0, .ref (g.2.1 20)), (1, .ref (g.2.1 10)), (2, .int x2), (3, .int x3)] → GW g s (mkS σ [(1286, v_far), (1283, v_ready), (1285, v_size), (1284, v_whole)] [] [(22, v_layers), (23, v_reached), (21, v_steps)] []) H locs → k28 x2 x3 v_far v_ready v_size v_whole v_layers v_reached v_steps = some (w_far, w_ready, w_size, w_whole, w_layers, w_reached, w_steps) → Wg p l e 3 71 s m args below meth c g none (mkS σ [(1286, w_far), (1283, w_ready), (1285, w_size), (1284, w_whole)] [] [(22, w_layers), (23, w_reached), (21, w_steps)] []) H locs (F0 m 28 ls [])) (x2 : Int32) (x3 : Int32) (v_far : Int32) (v_ready : Int32) (v_size : Int32) (v_whole : Int32) (v_layers : Nat → Int32) (v_reached : Nat → Int32) (v_steps : Nat → Int32) (H : Heap) (locs : List Loc) (ls : Array Slot), lv_has ls 4 [(0, .ref (g.2.1 20)), (1, .ref (g.2.1 10)), (2, .int x2), (3, .int x3)] → GW g s (mkS σ [(1286, v_far), (1283, v_ready), (1285, v_size), (1284, v_whole)] [] [(22, v_layers), (23, v_reached), (21, v_steps)] []) H locs → Wy_measure_n28 k28 (σ.1 641) (σ.2.2.1 11) x2 x3 v_far v_ready v_size v_whole v_layers v_reached v_steps = some (w_far, w_ready, w_size, w_whole, w_layers, w_reached, w_steps) → Wg p l e 3 71 s m args below meth c g none (mkS σ [(1286, w_far), (1283, w_ready), (1285, w_size), (1284, w_whole)] [] [(22, w_layers), (23, w_reached), (21, w_steps)] []) H locs (F0 m 28 ls []) := by
    intro k28 hk28 x2 x3 v_far v_ready v_size v_whole v_layers v_reached v_steps H locs ls hl hG h
    unfold Wy_measure_n28 at h
    refine lv_iload_n hx hb dX7_measure_28 rfl (lv_at hl 3 rfl) ?_
    refine lv_aload_n hx hb dX7_measure_29 rfl (lv_at hl 0 rfl) ?_
    refine gx_get (v := .int v_size) (C := RX7) (T := TX7) (N := 7) hx hb hts mc_X7 hown hK hG (ga_20 g _) rfl 5 (by decide) hw3 rfl rfl dX7_measure_30 ?_
    refine lv_icmp_ge (tgt := 53) hx hb dX7_measure_33 (by decide) (fun c7 => ?_) (fun c7 => ?_)
    · have h := ite_t c7 h
      exact n53 x2 v_far v_ready v_size v_whole v_layers v_reached v_steps _ _ _ (lv_sub hl [0, 2] rfl) hG h
    · have h := ite_f c7 h
      refine lv_iload_n hx hb dX7_measure_36 rfl (lv_at hl 2 rfl) ?_
      refine lv_aload_n hx hb dX7_measure_37 rfl (lv_at hl 0 rfl) ?_
      refine lv_aload_n hx hb dX7_measure_38 rfl (lv_at hl 1 rfl) ?_
      refine lv_iload_n hx hb dX7_measure_39 rfl (lv_at hl 3 rfl) ?_
      obtain ⟨z8, hc9, h⟩ := bnd_some h
      refine gx_cV (σ' := (mkS σ [(1286, v_far), (1283, v_ready), (1285, v_size), (1284, v_whole)] [] [(22, z8.2.1), (23, z8.2.2.1), (21, z8.2.2.2)] [])) (r := (some (.int z8.1))) (rest := [.int x2]) (As := [.ref (g.2.1 10), .int x3]) hS9 (c_Wy_spread l g (mkS σ [(1286, v_far), (1283, v_ready), (1285, v_size), (1284, v_whole)] [] [(22, v_layers), (23, v_reached), (21, v_steps)] []) x3 z8.1 z8.2.1 z8.2.2.1 z8.2.2.2 hc9) (mk_mk rfl rfl rfl rfl) (cwV 2 hts (gz_V mw_3_14 mw_3_16 ms_1_7 mw_1_5 mw_3_17) rfl rfl rfl hdV_X7_spread ⟨Nat.le_of_ble_eq_true rfl, Nat.le_of_ble_eq_true rfl⟩) hK hG (ga_20 g _) rfl rfl rfl hl.1 rfl (Nat.le_of_ble_eq_true rfl) dX7_measure_40 (fun H locs hG => ?_)
      refine W.eq (g2 := F0 m 43 ls [.int z8.1, .int x2]) rfl ?_
      refine va_mmax hx hb (by rw [hml]; exact hl.1.symm) hown hw7 hw8 hw9 hw10 (Nat.le_of_ble_eq_true rfl) (Nat.le_of_ble_eq_true rfl) (Nat.zero_le _) (Nat.zero_le _) dX7_measure_43 ?_
      refine lv_topi (fun y10 ey10 => ?_)
      have h := lt_at h ey10
      refine lv_istore_n (lv' := [(2, .int y10), (0, .ref (g.2.1 20)), (1, .ref (g.2.1 10)), (3, .int x3)]) hx hb dX7_measure_46 rfl hl (Nat.le_of_ble_eq_true rfl) rfl (fun ls hl => ?_)
      refine lv_iinc (v := (x3 + (1 : Int32))) (lv' := [(3, .int (x3 + (1 : Int32))), (2, .int y10), (0, .ref (g.2.1 20)), (1, .ref (g.2.1 10))]) hx hb dX7_measure_47 hl (k := 3) rfl (congrArg (fun z => x3 + z) (by decide)) (Nat.le_of_ble_eq_true rfl) rfl (fun ls hl => ?_)
      refine lv_goto (tgt := 28) hx hb dX7_measure_50 (by decide) ?_
      exact hk28 y10 (x3 + (1 : Int32)) v_far v_ready v_size v_whole z8.2.1 z8.2.2.1 z8.2.2.2 _ _ _ (lv_sub hl [2, 3, 1, 0] rfl) hG h
  have l28 : ∀  (F : Nat) (x2 : Int32) (x3 : Int32) (v_far : Int32) (v_ready : Int32) (v_size : Int32) (v_whole : Int32) (v_layers : Nat → Int32) (v_reached : Nat → Int32) (v_steps : Nat → Int32) (H : Heap) (locs : List Loc) (ls : Array Slot), lv_has ls 4 [(0, .ref (g.2.1 20)), (1, .ref (g.2.1 10)), (2, .int x2), (3, .int x3)] → GW g s (mkS σ [(1286, v_far), (1283, v_ready), (1285, v_size), (1284, v_whole)] [] [(22, v_layers), (23, v_reached), (21, v_steps)] []) H locs → Wy_measure_l28 (σ.1 641) (σ.2.2.1 11) F x2 x3 v_far v_ready v_size v_whole v_layers v_reached v_steps = some (w_far, w_ready, w_size, w_whole, w_layers, w_reached, w_steps) → Wg p l e 3 71 s m args below meth c g none (mkS σ [(1286, w_far), (1283, w_ready), (1285, w_size), (1284, w_whole)] [] [(22, w_layers), (23, w_reached), (21, w_steps)] []) H locs (F0 m 28 ls []) := by
    intro F
    induction F with
    | zero => intro x2 x3 v_far v_ready v_size v_whole v_layers v_reached v_steps H locs ls hl hG h; exact no_some h
    | succ F ih => intro x2 x3 v_far v_ready v_size v_whole v_layers v_reached v_steps H locs ls hl hG h; exact n28 (fun x2 x3 v_far v_ready v_size v_whole v_layers v_reached v_steps => Wy_measure_l28 (σ.1 641) (σ.2.2.1 11) F x2 x3 v_far v_ready v_size v_whole v_layers v_reached v_steps) ih x2 x3 v_far v_ready v_size v_whole v_layers v_reached v_steps H locs ls hl hG h
  refine lv_aload_n hx hb dX7_measure_0 rfl (lv_at hl 0 rfl) ?_
  refine lv_aload_n hx hb dX7_measure_1 rfl (lv_at hl 1 rfl) ?_
  refine gx_get (v := .int (σ.1 641)) (C := RX2) (T := TX2) (N := 2) hx hb hts mc_X2 hown hK hG (ga_10 g _) rfl 1 (by decide) hw11 rfl rfl dX7_measure_2 ?_
  refine gx_put (σ' := (mkS σ [(1286, (σ.1 1286)), (1283, (σ.1 1283)), (1285, (σ.1 641)), (1284, (σ.1 1284))] [] [(22, (σ.2.2.1 22)), (23, (σ.2.2.1 23)), (21, (σ.2.2.1 21))] [])) (C := RX7) (T := TX7) (N := 7) hx hb hts mc_X7 tyX7 tyX7_ok nmX7 hown hK hG (ga_20 g _) rfl 5 (by decide) hw3 rfl rfl rfl rfl (Nat.le_of_ble_eq_true rfl) ((gf_1285 g _ _).trans (congrArg (g_cells g) (mk_a 2 rfl rfl))) dX7_measure_5 (fun H locs hG => ?_)
  refine lv_aload_n hx hb dX7_measure_8 rfl (lv_at hl 0 rfl) ?_
  refine gx_get (v := .ref (g.2.1 21)) (C := RX7) (T := TX7) (N := 7) hx hb hts mc_X7 hown hK hG (ga_20 g _) rfl 0 (by decide) hw12 rfl rfl dX7_measure_9 ?_
  refine lv_iconst (v := (-1 : Int32)) hx hb dX7_measure_12 (by decide) ?_
  obtain ⟨z11, hc12, h⟩ := bnd_some h
  refine gx_cS (σ' := (mkS σ [(1286, (σ.1 1286)), (1283, (σ.1 1283)), (1285, (σ.1 641)), (1284, (σ.1 1284))] [] [(22, (σ.2.2.1 22)), (23, (σ.2.2.1 23)), (21, z11)] [])) (r := none) (rest := []) (As := [.ref (g.2.1 21), .int (-1 : Int32)]) hS9 (c_JA_fillI_21 l g (mkS σ [(1286, (σ.1 1286)), (1283, (σ.1 1283)), (1285, (σ.1 641)), (1284, (σ.1 1284))] [] [(22, (σ.2.2.1 22)), (23, (σ.2.2.1 23)), (21, (σ.2.2.1 21))] []) (-1 : Int32) z11 hc12) (mk_mk rfl rfl rfl rfl) (va_cwS 2 hts (gz_S mw_3_13 mw_1_155 mw_1_8 mw_1_156) rfl rfl rfl hdS_J7_fill_53178 ⟨Nat.le_of_ble_eq_true rfl, Nat.le_of_ble_eq_true rfl⟩) hK hG rfl hl.1 rfl (Nat.le_of_ble_eq_true rfl) dX7_measure_13 (fun H locs hG => ?_)
  refine W.eq (g2 := F0 m 16 ls []) rfl ?_
  refine lv_aload_n hx hb dX7_measure_16 rfl (lv_at hl 0 rfl) ?_
  refine gx_get (v := .ref (g.2.1 22)) (C := RX7) (T := TX7) (N := 7) hx hb hts mc_X7 hown hK hG (ga_20 g _) rfl 1 (by decide) hw13 rfl rfl dX7_measure_17 ?_
  refine lv_iconst (v := (0 : Int32)) hx hb dX7_measure_20 (by decide) ?_
  obtain ⟨z13, hc14, h⟩ := bnd_some h
  refine gx_cS (σ' := (mkS σ [(1286, (σ.1 1286)), (1283, (σ.1 1283)), (1285, (σ.1 641)), (1284, (σ.1 1284))] [] [(22, z13), (23, (σ.2.2.1 23)), (21, z11)] [])) (r := none) (rest := []) (As := [.ref (g.2.1 22), .int (0 : Int32)]) hS9 (c_JA_fillI_22 l g (mkS σ [(1286, (σ.1 1286)), (1283, (σ.1 1283)), (1285, (σ.1 641)), (1284, (σ.1 1284))] [] [(22, (σ.2.2.1 22)), (23, (σ.2.2.1 23)), (21, z11)] []) (0 : Int32) z13 hc14) (mk_mk rfl rfl rfl rfl) (va_cwS 2 hts (gz_S mw_3_13 mw_1_155 mw_1_8 mw_1_156) rfl rfl rfl hdS_J7_fill_53178 ⟨Nat.le_of_ble_eq_true rfl, Nat.le_of_ble_eq_true rfl⟩) hK hG rfl hl.1 rfl (Nat.le_of_ble_eq_true rfl) dX7_measure_21 (fun H locs hG => ?_)
  refine W.eq (g2 := F0 m 24 ls []) rfl ?_
  refine lv_iconst (v := (0 : Int32)) hx hb dX7_measure_24 (by decide) ?_
  refine lv_istore_n (lv' := [(2, .int (0 : Int32)), (0, .ref (g.2.1 20)), (1, .ref (g.2.1 10))]) hx hb dX7_measure_25 rfl hl (Nat.le_of_ble_eq_true rfl) rfl (fun ls hl => ?_)
  refine lv_iconst (v := (0 : Int32)) hx hb dX7_measure_26 (by decide) ?_
  refine lv_istore_n (lv' := [(3, .int (0 : Int32)), (2, .int (0 : Int32)), (0, .ref (g.2.1 20)), (1, .ref (g.2.1 10))]) hx hb dX7_measure_27 rfl hl (Nat.le_of_ble_eq_true rfl) rfl (fun ls hl => ?_)
  exact l28 FUEL (0 : Int32) (0 : Int32) (σ.1 1286) (σ.1 1283) (σ.1 641) (σ.1 1284) z13 (σ.2.2.1 23) z11 _ _ _ (lv_sub hl [2, 3, 1, 0] rfl) hG h

set_option maxHeartbeats 4000000 in
set_option maxRecDepth 100000 in
theorem c_LN_measure (l : Launch) (g : GC) (σ : St) (w_ways_far : Int32) (w_ways_ready : Int32) (w_ways_size : Int32) (w_ways_whole : Int32) (w_ways_layers : Nat → Int32) (w_ways_reached : Nat → Int32) (w_ways_steps : Nat → Int32) (h : LN_measure (σ.1 641) (σ.1 1286) (σ.1 1283) (σ.1 1285) (σ.1 1284) (σ.2.2.1 11) (σ.2.2.1 22) (σ.2.2.1 23) (σ.2.2.1 21) = some (w_ways_far, w_ways_ready, w_ways_size, w_ways_whole, w_ways_layers, w_ways_reached, w_ways_steps)) : Cn l g yX8_measure (Cond.code yX8_measure cX8_measure 1 none :: wG) 4 94 [.ref (g.2.1 0)] σ none (mkS σ [(1286, w_ways_far), (1283, w_ways_ready), (1285, w_ways_size), (1284, w_ways_whole)] [] [(22, w_ways_layers), (23, w_ways_reached), (21, w_ways_steps)] []) := by
  unfold Cn
  refine Met.ofW (cc := cX8_measure) (maxL := 1) (ret := none) (by decide) rfl ?_
  intro p e s m args below meth c s₁ B hml hv
  obtain ⟨hargs, hP0, hK⟩ := hv
  have hx := B.exec
  have hb := B.bytes
  have hr := B.returns
  have hts : ∀ w ∈ wG, w.before args s = true := fun w h => atoms_spec (ws := (Cond.code yX8_measure cX8_measure 1 none :: wG)) B.pre w (List.mem_cons_of_mem _ h)
  have hown : s.vm.findClass RX8 = some m.cls := findClass_of_methodNamed B.named
  have hlocks := B.notSynchronized
  have hS9 : CallFix p m c cX8_measure 1 s args wG RX8 := ⟨hx, hb, hml, hown, hts⟩
  have hw0 := hts _ mw_2_44
  have hw1 := hts _ mw_1_87
  have hw2 := hts _ mw_2_38
  have hf9 : entryFrame m args 1 = _ := (congrArg (fun a => entryFrame m a 1) hargs).trans (lg_entry_eq m [.ref (g.2.1 0)] 1)
  show Wg p l e 4 94 s m args below meth c g none (mkS σ [(1286, w_ways_far), (1283, w_ways_ready), (1285, w_ways_size), (1284, w_ways_whole)] [] [(22, w_ways_layers), (23, w_ways_reached), (21, w_ways_steps)] []) s.heap [] (entryFrame m args 1)
  rw [hf9]
  have hl := lv_entry ([.ref (g.2.1 0)]) (n := 1) (Nat.le_of_ble_eq_true rfl)
  generalize (lg_sl ([.ref (g.2.1 0)]) ++ List.replicate (1 - (lg_sl ([.ref (g.2.1 0)])).length) Slot.unset).toArray = ls at hl ⊢
  have hl : lv_has ls 1 [(0, .ref (g.2.1 0))] := hl
  have hG : GW g s σ s.heap [] := ⟨hP0, va_S.rf⟩
  have hG : GW g s (mkS σ [(1286, (σ.1 1286)), (1283, (σ.1 1283)), (1285, (σ.1 1285)), (1284, (σ.1 1284))] [] [(22, (σ.2.2.1 22)), (23, (σ.2.2.1 23)), (21, (σ.2.2.1 21))] []) s.heap [] := GW_self [1286, 1283, 1285, 1284] [] [22, 23, 21] [] hG
  unfold LN_measure at h
  have n21 : ∀ (v_ways_far : Int32) (v_ways_ready : Int32) (v_ways_size : Int32) (v_ways_whole : Int32) (v_ways_layers : Nat → Int32) (v_ways_reached : Nat → Int32) (v_ways_steps : Nat → Int32) (H : Heap) (locs : List Loc) (ls : Array Slot), lv_has ls 1 [] → GW g s (mkS σ [(1286, v_ways_far), (1283, v_ways_ready), (1285, v_ways_size), (1284, v_ways_whole)] [] [(22, v_ways_layers), (23, v_ways_reached), (21, v_ways_steps)] []) H locs → LN_measure_n21 v_ways_far v_ways_ready v_ways_size v_ways_whole v_ways_layers v_ways_reached v_ways_steps = some (w_ways_far, w_ways_ready, w_ways_size, w_ways_whole, w_ways_layers, w_ways_reached, w_ways_steps) → Wg p l e 4 94 s m args below meth c g none (mkS σ [(1286, w_ways_far), (1283, w_ways_ready), (1285, w_ways_size), (1284, w_ways_whole)] [] [(22, w_ways_layers), (23, w_ways_reached), (21, w_ways_steps)] []) H locs (F0 m 21 ls []) := by
    intro v_ways_far v_ways_ready v_ways_size v_ways_whole v_ways_layers v_ways_reached v_ways_steps H locs ls hl hG h
    unfold LN_measure_n21 at h
    cases h
    exact gx_vret hx hb hr hlocks hG dX8_measure_21
  refine lv_aload_n hx hb dX8_measure_0 rfl (lv_at hl 0 rfl) ?_
  refine gx_get (v := .ref (g.2.1 20)) (C := RX8) (T := TX8) (N := 13) hx hb hts mc_X8 hown hK hG (ga_0 g _) rfl 7 (by decide) hw0 rfl rfl dX8_measure_1 ?_
  refine gx_get (v := .int (σ.1 1283)) (C := RX7) (T := TX7) (N := 7) hx hb hts mc_X7 hown hK hG (ga_20 g _) rfl 3 (by decide) hw1 rfl rfl dX8_measure_4 ?_
  refine lv_if_ne (tgt := 21) hx hb dX8_measure_7 (by decide) (fun c1 => ?_) (fun c1 => ?_)
  · have h := ite_f c1 h
    exact n21 (σ.1 1286) (σ.1 1283) (σ.1 1285) (σ.1 1284) (σ.2.2.1 22) (σ.2.2.1 23) (σ.2.2.1 21) _ _ _ (lv_sub hl [] rfl) hG h
  · have h := ite_t c1 h
    refine lv_aload_n hx hb dX8_measure_10 rfl (lv_at hl 0 rfl) ?_
    refine gx_get (v := .ref (g.2.1 20)) (C := RX8) (T := TX8) (N := 13) hx hb hts mc_X8 hown hK hG (ga_0 g _) rfl 7 (by decide) hw0 rfl rfl dX8_measure_11 ?_
    refine lv_aload_n hx hb dX8_measure_14 rfl (lv_at hl 0 rfl) ?_
    refine gx_get (v := .ref (g.2.1 10)) (C := RX8) (T := TX8) (N := 13) hx hb hts mc_X8 hown hK hG (ga_0 g _) rfl 1 (by decide) hw2 rfl rfl dX8_measure_15 ?_
    obtain ⟨z2, hc3, h⟩ := bnd_some h
    refine gx_cV (σ' := (mkS σ [(1286, z2.1), (1283, z2.2.1), (1285, z2.2.2.1), (1284, z2.2.2.2.1)] [] [(22, z2.2.2.2.2.1), (23, z2.2.2.2.2.2.1), (21, z2.2.2.2.2.2.2)] [])) (r := none) (rest := []) (As := [.ref (g.2.1 10)]) hS9 (c_Wy_measure l g (mkS σ [(1286, (σ.1 1286)), (1283, (σ.1 1283)), (1285, (σ.1 1285)), (1284, (σ.1 1284))] [] [(22, (σ.2.2.1 22)), (23, (σ.2.2.1 23)), (21, (σ.2.2.1 21))] []) z2.1 z2.2.1 z2.2.2.1 z2.2.2.2.1 z2.2.2.2.2.1 z2.2.2.2.2.2.1 z2.2.2.2.2.2.2 hc3) (mk_mk rfl rfl rfl rfl) (cwV 1 hts (gz_V mw_3_9 mw_3_10 mw_3_11 mw_1_5 mw_3_12) rfl rfl rfl hdV_X7_measure ⟨Nat.le_of_ble_eq_true rfl, Nat.le_of_ble_eq_true rfl⟩) hK hG (ga_20 g _) rfl rfl rfl hl.1 rfl (Nat.le_of_ble_eq_true rfl) dX8_measure_18 (fun H locs hG => ?_)
    refine W.eq (g2 := F0 m 21 ls []) rfl ?_
    exact n21 z2.1 z2.2.1 z2.2.2.1 z2.2.2.2.1 z2.2.2.2.2.1 z2.2.2.2.2.2.1 z2.2.2.2.2.2.2 _ _ _ (lv_sub hl [] rfl) hG h

set_option maxHeartbeats 4000000 in
set_option maxRecDepth 100000 in
theorem c_JA_fillI_25 (l : Launch) (g : GC) (σ : St) (x1 : Int32) (w_r0 : Nat → Int32) (h : JA_fillI x1 32 (σ.2.2.1 25) = some w_r0) : Cn l g yJ7_fill_53178 (Cond.code yJ7_fill_53178 cJ7_fill_53178 4 none :: wG) 0 0 [.ref (g.2.1 25), .int x1] σ none (mkS σ [] [] [(25, w_r0)] []) := by
  unfold Cn
  refine Met.ofW (cc := cJ7_fill_53178) (maxL := 4) (ret := none) (by decide) rfl ?_
  intro p e s m args below meth c s₁ B hml hv
  obtain ⟨hargs, hP0, hK⟩ := hv
  have hx := B.exec
  have hb := B.bytes
  have hr := B.returns
  have hts : ∀ w ∈ wG, w.before args s = true := fun w h => atoms_spec (ws := (Cond.code yJ7_fill_53178 cJ7_fill_53178 4 none :: wG)) B.pre w (List.mem_cons_of_mem _ h)
  have hown : s.vm.findClass RJ7 = some m.cls := findClass_of_methodNamed B.named
  have hlocks := B.notSynchronized
  have hf9 : entryFrame m args 4 = _ := (congrArg (fun a => entryFrame m a 4) hargs).trans (lg_entry_eq m [.ref (g.2.1 25), .int x1] 4)
  show Wg p l e 0 0 s m args below meth c g none (mkS σ [] [] [(25, w_r0)] []) s.heap [] (entryFrame m args 4)
  rw [hf9]
  have hl := lv_entry ([.ref (g.2.1 25), .int x1]) (n := 4) (Nat.le_of_ble_eq_true rfl)
  generalize (lg_sl ([.ref (g.2.1 25), .int x1]) ++ List.replicate (4 - (lg_sl ([.ref (g.2.1 25), .int x1])).length) Slot.unset).toArray = ls at hl ⊢
  have hl : lv_has ls 4 [(0, .ref (g.2.1 25)), (1, .int x1)] := hl
  have hG : GW g s σ s.heap [] := ⟨hP0, va_S.rf⟩
  have hG : GW g s (mkS σ [] [] [(25, (σ.2.2.1 25))] []) s.heap [] := GW_self [] [] [25] [] hG
  unfold JA_fillI at h
  have n20 : ∀ (v_r0 : Nat → Int32) (H : Heap) (locs : List Loc) (ls : Array Slot), lv_has ls 4 [] → GW g s (mkS σ [] [] [(25, v_r0)] []) H locs → JA_fillI_n20 32 v_r0 = some w_r0 → Wg p l e 0 0 s m args below meth c g none (mkS σ [] [] [(25, w_r0)] []) H locs (F0 m 20 ls []) := by
    intro v_r0 H locs ls hl hG h
    unfold JA_fillI_n20 at h
    cases h
    exact gx_vret hx hb hr hlocks hG dJ7_fill_53178_20
  have n5 : ∀ (k5 : Int32 → Int32 → Int32 → (Nat → Int32) → Option ((Nat → Int32))) (hk5 : ∀ (x1 : Int32) (x2 : Int32) (x3 : Int32) (v_r0 : Nat → Int32) (H : Heap) (locs : List Loc) (ls : Array Slot), lv_has ls 4 [(0, .ref (g.2.1 25)), (1, .int x1), (2, .int x2), (3, .int x3)] → GW g s (mkS σ [] [] [(25, v_r0)] []) H locs → k5 x1 x2 x3 v_r0 = some w_r0 → Wg p l e 0 0 s m args below meth c g none (mkS σ [] [] [(25, w_r0)] []) H locs (F0 m 5 ls [])) (x1 : Int32) (x2 : Int32) (x3 : Int32) (v_r0 : Nat → Int32) (H : Heap) (locs : List Loc) (ls : Array Slot), lv_has ls 4 [(0, .ref (g.2.1 25)), (1, .int x1), (2, .int x2), (3, .int x3)] → GW g s (mkS σ [] [] [(25, v_r0)] []) H locs → JA_fillI_n5 k5 32 x1 x2 x3 v_r0 = some w_r0 → Wg p l e 0 0 s m args below meth c g none (mkS σ [] [] [(25, w_r0)] []) H locs (F0 m 5 ls []) := by
    intro k5 hk5 x1 x2 x3 v_r0 H locs ls hl hG h
    unfold JA_fillI_n5 at h
    refine lv_iload_n hx hb dJ7_fill_53178_5 rfl (lv_at hl 2 rfl) ?_
    refine lv_iload_n hx hb dJ7_fill_53178_6 rfl (lv_at hl 3 rfl) ?_
    refine lv_icmp_ge (tgt := 20) hx hb dJ7_fill_53178_7 (by decide) (fun c1 => ?_) (fun c1 => ?_)
    · have h := ite_t c1 h
      exact n20 v_r0 _ _ _ (lv_sub hl [] rfl) hG h
    · have h := ite_f c1 h
      refine lv_aload_n hx hb dJ7_fill_53178_10 rfl (lv_at hl 0 rfl) ?_
      refine lv_iload_n hx hb dJ7_fill_53178_11 rfl (lv_at hl 2 rfl) ?_
      refine lv_iload_n hx hb dJ7_fill_53178_12 rfl (lv_at hl 1 rfl) ?_
      obtain ⟨hg2, h⟩ := gd_some h
      refine gx_iast (σ' := (mkS σ [] [] [(25, (upd v_r0 (x2.toNatClampNeg) x1))] [])) (f := v_r0) hx hb hK hG (ga_25 g _) hg2 ((gs_25 g _ _).trans (congrArg (g_cells g) (mk_c 0 rfl rfl))) dJ7_fill_53178_13 (fun H locs hG => ?_)
      refine lv_iinc (v := (x2 + (1 : Int32))) (lv' := [(2, .int (x2 + (1 : Int32))), (0, .ref (g.2.1 25)), (1, .int x1), (3, .int x3)]) hx hb dJ7_fill_53178_14 hl (k := 2) rfl (congrArg (fun z => x2 + z) (by decide)) (Nat.le_of_ble_eq_true rfl) rfl (fun ls hl => ?_)
      refine lv_goto (tgt := 5) hx hb dJ7_fill_53178_17 (by decide) ?_
      exact hk5 x1 (x2 + (1 : Int32)) x3 (upd v_r0 (x2.toNatClampNeg) x1) _ _ _ (lv_sub hl [1, 2, 0, 3] rfl) hG h
  have l5 : ∀  (F : Nat) (x1 : Int32) (x2 : Int32) (x3 : Int32) (v_r0 : Nat → Int32) (H : Heap) (locs : List Loc) (ls : Array Slot), lv_has ls 4 [(0, .ref (g.2.1 25)), (1, .int x1), (2, .int x2), (3, .int x3)] → GW g s (mkS σ [] [] [(25, v_r0)] []) H locs → JA_fillI_l5 32 F x1 x2 x3 v_r0 = some w_r0 → Wg p l e 0 0 s m args below meth c g none (mkS σ [] [] [(25, w_r0)] []) H locs (F0 m 5 ls []) := by
    intro F
    induction F with
    | zero => intro x1 x2 x3 v_r0 H locs ls hl hG h; exact no_some h
    | succ F ih => intro x1 x2 x3 v_r0 H locs ls hl hG h; exact n5 (fun x1 x2 x3 v_r0 => JA_fillI_l5 32 F x1 x2 x3 v_r0) ih x1 x2 x3 v_r0 H locs ls hl hG h
  refine lv_iconst (v := (0 : Int32)) hx hb dJ7_fill_53178_0 (by decide) ?_
  refine lv_istore_n (lv' := [(2, .int (0 : Int32)), (0, .ref (g.2.1 25)), (1, .int x1)]) hx hb dJ7_fill_53178_1 rfl hl (Nat.le_of_ble_eq_true rfl) rfl (fun ls hl => ?_)
  refine lv_aload_n hx hb dJ7_fill_53178_2 rfl (lv_at hl 1 rfl) ?_
  refine gx_alen (v := (Int32.ofNat 32)) hx hb hK hG 0 (ga_25 g _) rfl rfl dJ7_fill_53178_3 ?_
  refine lv_istore_n (lv' := [(3, .int (Int32.ofNat 32)), (2, .int (0 : Int32)), (0, .ref (g.2.1 25)), (1, .int x1)]) hx hb dJ7_fill_53178_4 rfl hl (Nat.le_of_ble_eq_true rfl) rfl (fun ls hl => ?_)
  exact l5 FUEL x1 (0 : Int32) (Int32.ofNat 32) (σ.2.2.1 25) _ _ _ (lv_sub hl [2, 3, 1, 0] rfl) hG h

set_option maxHeartbeats 4000000 in
set_option maxRecDepth 100000 in
theorem c_Wy_between (l : Launch) (g : GC) (σ : St) (x1 : Int32) (x2 : Int32) (r : Int32) (h : Wy_between x1 x2 (σ.2.2.1 21) = some r) : Cn l g yX7_between (Cond.code yX7_between cX7_between 3 (some .int) :: wG) 0 0 [.ref (g.2.1 20), .int x1, .int x2] σ (some (.int r)) σ := by
  unfold Cn
  refine Met.ofW (cc := cX7_between) (maxL := 3) (ret := (some .int)) (by decide) rfl ?_
  intro p e s m args below meth c s₁ B hml hv
  obtain ⟨hargs, hP0, hK⟩ := hv
  have hx := B.exec
  have hb := B.bytes
  have hr := B.returns
  have hts : ∀ w ∈ wG, w.before args s = true := fun w h => atoms_spec (ws := (Cond.code yX7_between cX7_between 3 (some .int) :: wG)) B.pre w (List.mem_cons_of_mem _ h)
  have hown : s.vm.findClass RX7 = some m.cls := findClass_of_methodNamed B.named
  have hlocks := B.notSynchronized
  have hw0 := hts _ mw_1_83
  have hf9 : entryFrame m args 3 = _ := (congrArg (fun a => entryFrame m a 3) hargs).trans (lg_entry_eq m [.ref (g.2.1 20), .int x1, .int x2] 3)
  show Wg p l e 0 0 s m args below meth c g (some (.int r)) σ s.heap [] (entryFrame m args 3)
  rw [hf9]
  have hl := lv_entry ([.ref (g.2.1 20), .int x1, .int x2]) (n := 3) (Nat.le_of_ble_eq_true rfl)
  generalize (lg_sl ([.ref (g.2.1 20), .int x1, .int x2]) ++ List.replicate (3 - (lg_sl ([.ref (g.2.1 20), .int x1, .int x2])).length) Slot.unset).toArray = ls at hl ⊢
  have hl : lv_has ls 3 [(0, .ref (g.2.1 20)), (1, .int x1), (2, .int x2)] := hl
  have hG : GW g s σ s.heap [] := ⟨hP0, va_S.rf⟩
  unfold Wy_between at h
  refine lv_aload_n hx hb dX7_between_0 rfl (lv_at hl 0 rfl) ?_
  refine gx_get (v := .ref (g.2.1 21)) (C := RX7) (T := TX7) (N := 7) hx hb hts mc_X7 hown hK hG (ga_20 g _) rfl 0 (by decide) hw0 rfl rfl dX7_between_1 ?_
  refine lv_iload_n hx hb dX7_between_4 rfl (lv_at hl 1 rfl) ?_
  refine lv_bipush (v := (32 : Int32)) hx hb dX7_between_5 (by decide) ?_
  refine lv_imul hx hb dX7_between_7 ?_
  refine lv_iload_n hx hb dX7_between_8 rfl (lv_at hl 2 rfl) ?_
  refine lv_iadd hx hb dX7_between_9 ?_
  obtain ⟨hg1, h⟩ := gd_some h
  refine gx_iald (f := (σ.2.2.1 21)) hx hb hK hG (ga_21 g _) hg1 dX7_between_10 ?_
  cases h
  exact gx_iret hx hb hr hlocks hG dX7_between_11

set_option maxHeartbeats 4000000 in
set_option maxRecDepth 100000 in
theorem c_Wy_postsAt (l : Launch) (g : GC) (σ : St) (x1 : Int32) (x2 : Int32) (r : Int32) (h : Wy_postsAt x1 x2 (σ.2.2.1 22) = some r) : Cn l g yX7_postsAt (Cond.code yX7_postsAt cX7_postsAt 3 (some .int) :: wG) 0 0 [.ref (g.2.1 20), .int x1, .int x2] σ (some (.int r)) σ := by
  unfold Cn
  refine Met.ofW (cc := cX7_postsAt) (maxL := 3) (ret := (some .int)) (by decide) rfl ?_
  intro p e s m args below meth c s₁ B hml hv
  obtain ⟨hargs, hP0, hK⟩ := hv
  have hx := B.exec
  have hb := B.bytes
  have hr := B.returns
  have hts : ∀ w ∈ wG, w.before args s = true := fun w h => atoms_spec (ws := (Cond.code yX7_postsAt cX7_postsAt 3 (some .int) :: wG)) B.pre w (List.mem_cons_of_mem _ h)
  have hown : s.vm.findClass RX7 = some m.cls := findClass_of_methodNamed B.named
  have hlocks := B.notSynchronized
  have hw0 := hts _ mw_1_84
  have hf9 : entryFrame m args 3 = _ := (congrArg (fun a => entryFrame m a 3) hargs).trans (lg_entry_eq m [.ref (g.2.1 20), .int x1, .int x2] 3)
  show Wg p l e 0 0 s m args below meth c g (some (.int r)) σ s.heap [] (entryFrame m args 3)
  rw [hf9]
  have hl := lv_entry ([.ref (g.2.1 20), .int x1, .int x2]) (n := 3) (Nat.le_of_ble_eq_true rfl)
  generalize (lg_sl ([.ref (g.2.1 20), .int x1, .int x2]) ++ List.replicate (3 - (lg_sl ([.ref (g.2.1 20), .int x1, .int x2])).length) Slot.unset).toArray = ls at hl ⊢
  have hl : lv_has ls 3 [(0, .ref (g.2.1 20)), (1, .int x1), (2, .int x2)] := hl
  have hG : GW g s σ s.heap [] := ⟨hP0, va_S.rf⟩
  unfold Wy_postsAt at h
  have n25 : ∀ (t0 : Int32) (H : Heap) (locs : List Loc) (ls : Array Slot), lv_has ls 3 [] → GW g s σ H locs → Wy_postsAt_n25 t0 = some r → Wg p l e 0 0 s m args below meth c g (some (.int r)) σ H locs (F0 m 25 ls [.int t0]) := by
    intro t0 H locs ls hl hG h
    unfold Wy_postsAt_n25 at h
    cases h
    exact gx_iret hx hb hr hlocks hG dX7_postsAt_25
  have n10 : ∀  (H : Heap) (locs : List Loc) (ls : Array Slot), lv_has ls 3 [] → GW g s σ H locs → Wy_postsAt_n10 = some r → Wg p l e 0 0 s m args below meth c g (some (.int r)) σ H locs (F0 m 10 ls []) := by
    intro H locs ls hl hG h
    unfold Wy_postsAt_n10 at h
    refine lv_iconst (v := (0 : Int32)) hx hb dX7_postsAt_10 (by decide) ?_
    refine lv_goto (tgt := 25) hx hb dX7_postsAt_11 (by decide) ?_
    exact n25 (0 : Int32) _ _ _ (lv_sub hl [] rfl) hG h
  refine lv_iload_n hx hb dX7_postsAt_0 rfl (lv_at hl 2 rfl) ?_
  refine lv_if_lt (tgt := 10) hx hb dX7_postsAt_1 (by decide) (fun c1 => ?_) (fun c1 => ?_)
  · have h := ite_t c1 h
    exact n10 _ _ _ (lv_sub hl [] rfl) hG h
  · have h := ite_f c1 h
    refine lv_iload_n hx hb dX7_postsAt_4 rfl (lv_at hl 2 rfl) ?_
    refine lv_bipush (v := (32 : Int32)) hx hb dX7_postsAt_5 (by decide) ?_
    refine lv_icmp_lt (tgt := 14) hx hb dX7_postsAt_7 (by decide) (fun c2 => ?_) (fun c2 => ?_)
    · have h := ite_t c2 h
      refine lv_aload_n hx hb dX7_postsAt_14 rfl (lv_at hl 0 rfl) ?_
      refine gx_get (v := .ref (g.2.1 22)) (C := RX7) (T := TX7) (N := 7) hx hb hts mc_X7 hown hK hG (ga_20 g _) rfl 1 (by decide) hw0 rfl rfl dX7_postsAt_15 ?_
      refine lv_iload_n hx hb dX7_postsAt_18 rfl (lv_at hl 1 rfl) ?_
      refine lv_bipush (v := (32 : Int32)) hx hb dX7_postsAt_19 (by decide) ?_
      refine lv_imul hx hb dX7_postsAt_21 ?_
      refine lv_iload_n hx hb dX7_postsAt_22 rfl (lv_at hl 2 rfl) ?_
      refine lv_iadd hx hb dX7_postsAt_23 ?_
      obtain ⟨hg3, h⟩ := gd_some h
      refine gx_iald (f := (σ.2.2.1 22)) hx hb hK hG (ga_22 g _) hg3 dX7_postsAt_24 ?_
      exact n25 ((σ.2.2.1 22) (((x1 * (32 : Int32)) + x2).toNatClampNeg)) _ _ _ (lv_sub hl [] rfl) hG h
    · have h := ite_f c2 h
      exact n10 _ _ _ (lv_sub hl [] rfl) hG h

set_option maxHeartbeats 4000000 in
set_option maxRecDepth 100000 in
theorem c_Lk_fits (l : Launch) (g : GC) (σ : St) (x3 : Int32) (x4 : Int32) (r : Int32) (w_a : Nat → Int32) (w_b : Nat → Int32) (w_c : Nat → Int32) (h : Lk_fits x3 x4 (σ.2.2.1 26) (σ.2.2.1 27) (σ.2.2.1 25) (σ.2.2.1 11) (σ.2.2.1 22) (σ.2.2.1 21) = some (r, w_a, w_b, w_c)) : Cn l g yX0_fits (Cond.code yX0_fits cX0_fits 9 (some .boolean) :: wG) 1 22 [.ref (g.2.1 24), .ref (g.2.1 10), .ref (g.2.1 20), .int x3, .int x4] σ (some (.int r)) (mkS σ [] [] [(26, w_a), (27, w_b), (25, w_c)] []) := by
  unfold Cn
  refine Met.ofW (cc := cX0_fits) (maxL := 9) (ret := (some .boolean)) (by decide) rfl ?_
  intro p e s m args below meth c s₁ B hml hv
  obtain ⟨hargs, hP0, hK⟩ := hv
  have hx := B.exec
  have hb := B.bytes
  have hr := B.returns
  have hts : ∀ w ∈ wG, w.before args s = true := fun w h => atoms_spec (ws := (Cond.code yX0_fits cX0_fits 9 (some .boolean) :: wG)) B.pre w (List.mem_cons_of_mem _ h)
  have hown : s.vm.findClass RX0 = some m.cls := findClass_of_methodNamed B.named
  have hlocks := B.notSynchronized
  have hS9 : CallFix p m c cX0_fits 9 s args wG RX0 := ⟨hx, hb, hml, hown, hts⟩
  have hw0 := hts _ mw_1_54
  have hw1 := hts _ mw_1_115
  have hw2 := hts _ mw_1_117
  have hw3 := hts _ mw_1_119
  have hf9 : entryFrame m args 9 = _ := (congrArg (fun a => entryFrame m a 9) hargs).trans (lg_entry_eq m [.ref (g.2.1 24), .ref (g.2.1 10), .ref (g.2.1 20), .int x3, .int x4] 9)
  show Wg p l e 1 22 s m args below meth c g (some (.int r)) (mkS σ [] [] [(26, w_a), (27, w_b), (25, w_c)] []) s.heap [] (entryFrame m args 9)
  rw [hf9]
  have hl := lv_entry ([.ref (g.2.1 24), .ref (g.2.1 10), .ref (g.2.1 20), .int x3, .int x4]) (n := 9) (Nat.le_of_ble_eq_true rfl)
  generalize (lg_sl ([.ref (g.2.1 24), .ref (g.2.1 10), .ref (g.2.1 20), .int x3, .int x4]) ++ List.replicate (9 - (lg_sl ([.ref (g.2.1 24), .ref (g.2.1 10), .ref (g.2.1 20), .int x3, .int x4])).length) Slot.unset).toArray = ls at hl ⊢
  have hl : lv_has ls 9 [(0, .ref (g.2.1 24)), (1, .ref (g.2.1 10)), (2, .ref (g.2.1 20)), (3, .int x3), (4, .int x4)] := hl
  have hG : GW g s σ s.heap [] := ⟨hP0, va_S.rf⟩
  have hG : GW g s (mkS σ [] [] [(26, (σ.2.2.1 26)), (27, (σ.2.2.1 27)), (25, (σ.2.2.1 25))] []) s.heap [] := GW_self [] [] [26, 27, 25] [] hG
  unfold Lk_fits at h
  have n160 : ∀ (t0 : Int32) (v_a : Nat → Int32) (v_b : Nat → Int32) (v_c : Nat → Int32) (H : Heap) (locs : List Loc) (ls : Array Slot), lv_has ls 9 [] → GW g s (mkS σ [] [] [(26, v_a), (27, v_b), (25, v_c)] []) H locs → Lk_fits_n160 t0 v_a v_b v_c = some (r, w_a, w_b, w_c) → Wg p l e 1 22 s m args below meth c g (some (.int r)) (mkS σ [] [] [(26, w_a), (27, w_b), (25, w_c)] []) H locs (F0 m 160 ls [.int t0]) := by
    intro t0 v_a v_b v_c H locs ls hl hG h
    unfold Lk_fits_n160 at h
    obtain ⟨hg1, h⟩ := gd_some h
    cases h
    exact gx_zret hx hb hr hlocks hg1 hG dX0_fits_160
  have n159 : ∀ (v_a : Nat → Int32) (v_b : Nat → Int32) (v_c : Nat → Int32) (H : Heap) (locs : List Loc) (ls : Array Slot), lv_has ls 9 [] → GW g s (mkS σ [] [] [(26, v_a), (27, v_b), (25, v_c)] []) H locs → Lk_fits_n159 v_a v_b v_c = some (r, w_a, w_b, w_c) → Wg p l e 1 22 s m args below meth c g (some (.int r)) (mkS σ [] [] [(26, w_a), (27, w_b), (25, w_c)] []) H locs (F0 m 159 ls []) := by
    intro v_a v_b v_c H locs ls hl hG h
    unfold Lk_fits_n159 at h
    refine lv_iconst (v := (0 : Int32)) hx hb dX0_fits_159 (by decide) ?_
    exact n160 (0 : Int32) v_a v_b v_c _ _ _ (lv_sub hl [] rfl) hG h
  refine lv_aload_n hx hb dX0_fits_0 rfl (lv_at hl 2 rfl) ?_
  refine lv_iload_n hx hb dX0_fits_1 rfl (lv_at hl 3 rfl) ?_
  refine lv_iload hx hb dX0_fits_2 (lv_at hl 4 rfl) ?_
  obtain ⟨z2, hc3, h⟩ := bnd_some h
  refine gx_cV (σ' := (mkS σ [] [] [(26, (σ.2.2.1 26)), (27, (σ.2.2.1 27)), (25, (σ.2.2.1 25))] [])) (r := (some (.int z2))) (rest := []) (As := [.int x3, .int x4]) hS9 (c_Wy_between l g (mkS σ [] [] [(26, (σ.2.2.1 26)), (27, (σ.2.2.1 27)), (25, (σ.2.2.1 25))] []) x3 x4 z2 hc3) rfl (cwV 2 hts (gz_V mw_3_95 mw_3_34 mw_3_35 mw_1_5 mw_3_36) rfl rfl rfl hdV_X7_between ⟨Nat.le_of_ble_eq_true rfl, Nat.le_of_ble_eq_true rfl⟩) hK hG (ga_20 g _) rfl rfl rfl hl.1 rfl (Nat.le_of_ble_eq_true rfl) dX0_fits_4 (fun H locs hG => ?_)
  refine W.eq (g2 := F0 m 7 ls [.int z2]) rfl ?_
  refine lv_istore (lv' := [(5, .int z2), (0, .ref (g.2.1 24)), (1, .ref (g.2.1 10)), (2, .ref (g.2.1 20)), (3, .int x3), (4, .int x4)]) hx hb dX0_fits_7 hl (Nat.le_of_ble_eq_true rfl) rfl (fun ls hl => ?_)
  refine lv_iload hx hb dX0_fits_9 (lv_at hl 0 rfl) ?_
  refine lv_if_ge (tgt := 16) hx hb dX0_fits_11 (by decide) (fun c4 => ?_) (fun c4 => ?_)
  · have h := ite_t c4 h
    refine lv_aload_n hx hb dX0_fits_16 rfl (lv_at hl 2 rfl) ?_
    refine gx_get (v := .ref (g.2.1 11)) (C := RX2) (T := TX2) (N := 2) hx hb hts mc_X2 hown hK hG (ga_10 g _) rfl 0 (by decide) hw0 rfl rfl dX0_fits_17 ?_
    refine lv_iload hx hb dX0_fits_20 (lv_at hl 5 rfl) ?_
    obtain ⟨hg5, h⟩ := gd_some h
    refine gx_iald (f := (σ.2.2.1 11)) hx hb hK hG (ga_11 g _) hg5 dX0_fits_22 ?_
    refine lv_aload_n hx hb dX0_fits_23 rfl (lv_at hl 3 rfl) ?_
    refine lv_iload_n hx hb dX0_fits_24 rfl (lv_at hl 4 rfl) ?_
    refine lv_iload hx hb dX0_fits_25 (lv_at hl 0 rfl) ?_
    refine lv_iconst (v := (1 : Int32)) hx hb dX0_fits_27 (by decide) ?_
    refine lv_isub hx hb dX0_fits_28 ?_
    obtain ⟨z6, hc7, h⟩ := bnd_some h
    refine gx_cV (σ' := (mkS σ [] [] [(26, (σ.2.2.1 26)), (27, (σ.2.2.1 27)), (25, (σ.2.2.1 25))] [])) (r := (some (.int z6))) (rest := [.int ((σ.2.2.1 11) (x4.toNatClampNeg))]) (As := [.int x3, .int (z2 - (1 : Int32))]) hS9 (c_Wy_postsAt l g (mkS σ [] [] [(26, (σ.2.2.1 26)), (27, (σ.2.2.1 27)), (25, (σ.2.2.1 25))] []) x3 (z2 - (1 : Int32)) z6 hc7) rfl (cwV 2 hts (gz_V mw_3_96 mw_3_62 mw_3_63 mw_1_5 mw_3_64) rfl rfl rfl hdV_X7_postsAt ⟨Nat.le_of_ble_eq_true rfl, Nat.le_of_ble_eq_true rfl⟩) hK hG (ga_20 g _) rfl rfl rfl hl.1 rfl (Nat.le_of_ble_eq_true rfl) dX0_fits_29 (fun H locs hG => ?_)
    refine W.eq (g2 := F0 m 32 ls [.int z6, .int ((σ.2.2.1 11) (x4.toNatClampNeg))]) rfl ?_
    refine lv_iand hx hb dX0_fits_32 ?_
    obtain ⟨z8, hc9, h⟩ := bnd_some h
    refine gx_cS (σ' := (mkS σ [] [] [(26, (σ.2.2.1 26)), (27, (σ.2.2.1 27)), (25, (σ.2.2.1 25))] [])) (r := (some (.int z8))) (rest := []) (As := [.int (((σ.2.2.1 11) (x4.toNatClampNeg)) &&& z6)]) hS9 (c_JI_bitCount l g (mkS σ [] [] [(26, (σ.2.2.1 26)), (27, (σ.2.2.1 27)), (25, (σ.2.2.1 25))] []) (((σ.2.2.1 11) (x4.toNatClampNeg)) &&& z6) z8 hc9) rfl (va_cwS 1 hts (gz_S mw_3_97 mw_2_169 mw_1_12 mw_2_170) rfl rfl rfl hdS_J6_bitCount_0f7a4 ⟨Nat.le_of_ble_eq_true rfl, Nat.le_of_ble_eq_true rfl⟩) hK hG rfl hl.1 rfl (Nat.le_of_ble_eq_true rfl) dX0_fits_33 (fun H locs hG => ?_)
    refine W.eq (g2 := F0 m 36 ls [.int z8]) rfl ?_
    refine lv_istore (lv' := [(6, .int z8), (5, .int z2), (0, .ref (g.2.1 24)), (1, .ref (g.2.1 10)), (2, .ref (g.2.1 20)), (3, .int x3), (4, .int x4)]) hx hb dX0_fits_36 hl (Nat.le_of_ble_eq_true rfl) rfl (fun ls hl => ?_)
    refine lv_aload_n hx hb dX0_fits_38 rfl (lv_at hl 3 rfl) ?_
    refine gx_get (v := .ref (g.2.1 11)) (C := RX2) (T := TX2) (N := 2) hx hb hts mc_X2 hown hK hG (ga_10 g _) rfl 0 (by decide) hw0 rfl rfl dX0_fits_39 ?_
    refine lv_iload hx hb dX0_fits_42 (lv_at hl 6 rfl) ?_
    refine gx_iald (f := (σ.2.2.1 11)) hx hb hK hG (ga_11 g _) hg5 dX0_fits_44 ?_
    refine lv_aload_n hx hb dX0_fits_45 rfl (lv_at hl 4 rfl) ?_
    refine lv_iload_n hx hb dX0_fits_46 rfl (lv_at hl 5 rfl) ?_
    refine lv_iload hx hb dX0_fits_47 (lv_at hl 1 rfl) ?_
    obtain ⟨z10, hc11, h⟩ := bnd_some h
    refine gx_cV (σ' := (mkS σ [] [] [(26, (σ.2.2.1 26)), (27, (σ.2.2.1 27)), (25, (σ.2.2.1 25))] [])) (r := (some (.int z10))) (rest := [.int ((σ.2.2.1 11) (x4.toNatClampNeg))]) (As := [.int x3, .int z2]) hS9 (c_Wy_postsAt l g (mkS σ [] [] [(26, (σ.2.2.1 26)), (27, (σ.2.2.1 27)), (25, (σ.2.2.1 25))] []) x3 z2 z10 hc11) rfl (cwV 2 hts (gz_V mw_3_96 mw_3_62 mw_3_63 mw_1_5 mw_3_64) rfl rfl rfl hdV_X7_postsAt ⟨Nat.le_of_ble_eq_true rfl, Nat.le_of_ble_eq_true rfl⟩) hK hG (ga_20 g _) rfl rfl rfl hl.1 rfl (Nat.le_of_ble_eq_true rfl) dX0_fits_49 (fun H locs hG => ?_)
    refine W.eq (g2 := F0 m 52 ls [.int z10, .int ((σ.2.2.1 11) (x4.toNatClampNeg))]) rfl ?_
    refine lv_iand hx hb dX0_fits_52 ?_
    obtain ⟨z12, hc13, h⟩ := bnd_some h
    refine gx_cS (σ' := (mkS σ [] [] [(26, (σ.2.2.1 26)), (27, (σ.2.2.1 27)), (25, (σ.2.2.1 25))] [])) (r := (some (.int z12))) (rest := []) (As := [.int (((σ.2.2.1 11) (x4.toNatClampNeg)) &&& z10)]) hS9 (c_JI_bitCount l g (mkS σ [] [] [(26, (σ.2.2.1 26)), (27, (σ.2.2.1 27)), (25, (σ.2.2.1 25))] []) (((σ.2.2.1 11) (x4.toNatClampNeg)) &&& z10) z12 hc13) rfl (va_cwS 1 hts (gz_S mw_3_97 mw_2_169 mw_1_12 mw_2_170) rfl rfl rfl hdS_J6_bitCount_0f7a4 ⟨Nat.le_of_ble_eq_true rfl, Nat.le_of_ble_eq_true rfl⟩) hK hG rfl hl.1 rfl (Nat.le_of_ble_eq_true rfl) dX0_fits_53 (fun H locs hG => ?_)
    refine W.eq (g2 := F0 m 56 ls [.int z12]) rfl ?_
    refine lv_istore (lv' := [(7, .int z12), (6, .int z8), (5, .int z2), (0, .ref (g.2.1 24)), (1, .ref (g.2.1 10)), (2, .ref (g.2.1 20)), (3, .int x3), (4, .int x4)]) hx hb dX0_fits_56 hl (Nat.le_of_ble_eq_true rfl) rfl (fun ls hl => ?_)
    refine lv_aload_n hx hb dX0_fits_58 rfl (lv_at hl 4 rfl) ?_
    refine gx_get (v := .ref (g.2.1 11)) (C := RX2) (T := TX2) (N := 2) hx hb hts mc_X2 hown hK hG (ga_10 g _) rfl 0 (by decide) hw0 rfl rfl dX0_fits_59 ?_
    refine lv_iload hx hb dX0_fits_62 (lv_at hl 7 rfl) ?_
    refine gx_iald (f := (σ.2.2.1 11)) hx hb hK hG (ga_11 g _) hg5 dX0_fits_64 ?_
    refine lv_aload_n hx hb dX0_fits_65 rfl (lv_at hl 5 rfl) ?_
    refine lv_iload_n hx hb dX0_fits_66 rfl (lv_at hl 6 rfl) ?_
    refine lv_iload hx hb dX0_fits_67 (lv_at hl 2 rfl) ?_
    refine lv_iconst (v := (1 : Int32)) hx hb dX0_fits_69 (by decide) ?_
    refine lv_iadd hx hb dX0_fits_70 ?_
    obtain ⟨z14, hc15, h⟩ := bnd_some h
    refine gx_cV (σ' := (mkS σ [] [] [(26, (σ.2.2.1 26)), (27, (σ.2.2.1 27)), (25, (σ.2.2.1 25))] [])) (r := (some (.int z14))) (rest := [.int ((σ.2.2.1 11) (x4.toNatClampNeg))]) (As := [.int x3, .int (z2 + (1 : Int32))]) hS9 (c_Wy_postsAt l g (mkS σ [] [] [(26, (σ.2.2.1 26)), (27, (σ.2.2.1 27)), (25, (σ.2.2.1 25))] []) x3 (z2 + (1 : Int32)) z14 hc15) rfl (cwV 2 hts (gz_V mw_3_96 mw_3_62 mw_3_63 mw_1_5 mw_3_64) rfl rfl rfl hdV_X7_postsAt ⟨Nat.le_of_ble_eq_true rfl, Nat.le_of_ble_eq_true rfl⟩) hK hG (ga_20 g _) rfl rfl rfl hl.1 rfl (Nat.le_of_ble_eq_true rfl) dX0_fits_71 (fun H locs hG => ?_)
    refine W.eq (g2 := F0 m 74 ls [.int z14, .int ((σ.2.2.1 11) (x4.toNatClampNeg))]) rfl ?_
    refine lv_iand hx hb dX0_fits_74 ?_
    obtain ⟨z16, hc17, h⟩ := bnd_some h
    refine gx_cS (σ' := (mkS σ [] [] [(26, (σ.2.2.1 26)), (27, (σ.2.2.1 27)), (25, (σ.2.2.1 25))] [])) (r := (some (.int z16))) (rest := []) (As := [.int (((σ.2.2.1 11) (x4.toNatClampNeg)) &&& z14)]) hS9 (c_JI_bitCount l g (mkS σ [] [] [(26, (σ.2.2.1 26)), (27, (σ.2.2.1 27)), (25, (σ.2.2.1 25))] []) (((σ.2.2.1 11) (x4.toNatClampNeg)) &&& z14) z16 hc17) rfl (va_cwS 1 hts (gz_S mw_3_97 mw_2_169 mw_1_12 mw_2_170) rfl rfl rfl hdS_J6_bitCount_0f7a4 ⟨Nat.le_of_ble_eq_true rfl, Nat.le_of_ble_eq_true rfl⟩) hK hG rfl hl.1 rfl (Nat.le_of_ble_eq_true rfl) dX0_fits_75 (fun H locs hG => ?_)
    refine W.eq (g2 := F0 m 78 ls [.int z16]) rfl ?_
    refine lv_istore (lv' := [(8, .int z16), (7, .int z12), (6, .int z8), (5, .int z2), (0, .ref (g.2.1 24)), (1, .ref (g.2.1 10)), (2, .ref (g.2.1 20)), (3, .int x3), (4, .int x4)]) hx hb dX0_fits_78 hl (Nat.le_of_ble_eq_true rfl) rfl (fun ls hl => ?_)
    refine lv_aload_n hx hb dX0_fits_80 rfl (lv_at hl 4 rfl) ?_
    refine gx_get (v := .ref (g.2.1 25)) (C := RX0) (T := TX0) (N := 7) hx hb hts mc_X0 hown hK hG (ga_24 g _) rfl 0 (by decide) hw1 rfl rfl dX0_fits_81 ?_
    refine lv_iload hx hb dX0_fits_84 (lv_at hl 3 rfl) ?_
    obtain ⟨hg18, h⟩ := gd_some h
    refine gx_iald (f := (σ.2.2.1 25)) hx hb hK hG (ga_25 g _) hg18 dX0_fits_86 ?_
    refine lv_if_ge (tgt := 119) hx hb dX0_fits_87 (by decide) (fun c19 => ?_) (fun c19 => ?_)
    · have h := ite_t c19 h
      refine lv_aload_n hx hb dX0_fits_119 rfl (lv_at hl 4 rfl) ?_
      refine gx_get (v := .ref (g.2.1 25)) (C := RX0) (T := TX0) (N := 7) hx hb hts mc_X0 hown hK hG (ga_24 g _) rfl 0 (by decide) hw1 rfl rfl dX0_fits_120 ?_
      refine lv_iload hx hb dX0_fits_123 (lv_at hl 3 rfl) ?_
      refine gx_iald (f := (σ.2.2.1 25)) hx hb hK hG (ga_25 g _) hg18 dX0_fits_125 ?_
      refine lv_iload hx hb dX0_fits_126 (lv_at hl 2 rfl) ?_
      refine lv_icmp_ne (tgt := 159) hx hb dX0_fits_128 (by decide) (fun c20 => ?_) (fun c20 => ?_)
      · have h := ite_f c20 h
        exact n159 (σ.2.2.1 26) (σ.2.2.1 27) (σ.2.2.1 25) _ _ _ (lv_sub hl [] rfl) hG h
      · have h := ite_t c20 h
        refine lv_aload_n hx hb dX0_fits_131 rfl (lv_at hl 4 rfl) ?_
        refine gx_get (v := .ref (g.2.1 26)) (C := RX0) (T := TX0) (N := 7) hx hb hts mc_X0 hown hK hG (ga_24 g _) rfl 1 (by decide) hw2 rfl rfl dX0_fits_132 ?_
        refine lv_iload hx hb dX0_fits_135 (lv_at hl 3 rfl) ?_
        refine gx_iald (f := (σ.2.2.1 26)) hx hb hK hG (ga_26 g _) hg18 dX0_fits_137 ?_
        refine lv_iload hx hb dX0_fits_138 (lv_at hl 1 rfl) ?_
        refine lv_icmp_ne (tgt := 159) hx hb dX0_fits_140 (by decide) (fun c21 => ?_) (fun c21 => ?_)
        · have h := ite_f c21 h
          exact n159 (σ.2.2.1 26) (σ.2.2.1 27) (σ.2.2.1 25) _ _ _ (lv_sub hl [] rfl) hG h
        · have h := ite_t c21 h
          refine lv_aload_n hx hb dX0_fits_143 rfl (lv_at hl 4 rfl) ?_
          refine gx_get (v := .ref (g.2.1 27)) (C := RX0) (T := TX0) (N := 7) hx hb hts mc_X0 hown hK hG (ga_24 g _) rfl 2 (by decide) hw3 rfl rfl dX0_fits_144 ?_
          refine lv_iload hx hb dX0_fits_147 (lv_at hl 3 rfl) ?_
          refine gx_iald (f := (σ.2.2.1 27)) hx hb hK hG (ga_27 g _) hg18 dX0_fits_149 ?_
          refine lv_iload hx hb dX0_fits_150 (lv_at hl 0 rfl) ?_
          refine lv_icmp_ne (tgt := 159) hx hb dX0_fits_152 (by decide) (fun c22 => ?_) (fun c22 => ?_)
          · have h := ite_f c22 h
            exact n159 (σ.2.2.1 26) (σ.2.2.1 27) (σ.2.2.1 25) _ _ _ (lv_sub hl [] rfl) hG h
          · have h := ite_t c22 h
            refine lv_iconst (v := (1 : Int32)) hx hb dX0_fits_155 (by decide) ?_
            refine lv_goto (tgt := 160) hx hb dX0_fits_156 (by decide) ?_
            exact n160 (1 : Int32) (σ.2.2.1 26) (σ.2.2.1 27) (σ.2.2.1 25) _ _ _ (lv_sub hl [] rfl) hG h
    · have h := ite_f c19 h
      refine lv_aload_n hx hb dX0_fits_90 rfl (lv_at hl 4 rfl) ?_
      refine gx_get (v := .ref (g.2.1 25)) (C := RX0) (T := TX0) (N := 7) hx hb hts mc_X0 hown hK hG (ga_24 g _) rfl 0 (by decide) hw1 rfl rfl dX0_fits_91 ?_
      refine lv_iload hx hb dX0_fits_94 (lv_at hl 3 rfl) ?_
      refine lv_iload hx hb dX0_fits_96 (lv_at hl 2 rfl) ?_
      refine gx_iast (σ' := (mkS σ [] [] [(26, (σ.2.2.1 26)), (27, (σ.2.2.1 27)), (25, (upd (σ.2.2.1 25) (z2.toNatClampNeg) z8))] [])) (f := (σ.2.2.1 25)) hx hb hK hG (ga_25 g _) hg18 ((gs_25 g _ _).trans (congrArg (g_cells g) (mk_c 2 rfl rfl))) dX0_fits_98 (fun H locs hG => ?_)
      refine lv_aload_n hx hb dX0_fits_99 rfl (lv_at hl 4 rfl) ?_
      refine gx_get (v := .ref (g.2.1 26)) (C := RX0) (T := TX0) (N := 7) hx hb hts mc_X0 hown hK hG (ga_24 g _) rfl 1 (by decide) hw2 rfl rfl dX0_fits_100 ?_
      refine lv_iload hx hb dX0_fits_103 (lv_at hl 3 rfl) ?_
      refine lv_iload hx hb dX0_fits_105 (lv_at hl 1 rfl) ?_
      refine gx_iast (σ' := (mkS σ [] [] [(26, (upd (σ.2.2.1 26) (z2.toNatClampNeg) z12)), (27, (σ.2.2.1 27)), (25, (upd (σ.2.2.1 25) (z2.toNatClampNeg) z8))] [])) (f := (σ.2.2.1 26)) hx hb hK hG (ga_26 g _) hg18 ((gs_26 g _ _).trans (congrArg (g_cells g) (mk_c 0 rfl rfl))) dX0_fits_107 (fun H locs hG => ?_)
      refine lv_aload_n hx hb dX0_fits_108 rfl (lv_at hl 4 rfl) ?_
      refine gx_get (v := .ref (g.2.1 27)) (C := RX0) (T := TX0) (N := 7) hx hb hts mc_X0 hown hK hG (ga_24 g _) rfl 2 (by decide) hw3 rfl rfl dX0_fits_109 ?_
      refine lv_iload hx hb dX0_fits_112 (lv_at hl 3 rfl) ?_
      refine lv_iload hx hb dX0_fits_114 (lv_at hl 0 rfl) ?_
      refine gx_iast (σ' := (mkS σ [] [] [(26, (upd (σ.2.2.1 26) (z2.toNatClampNeg) z12)), (27, (upd (σ.2.2.1 27) (z2.toNatClampNeg) z16)), (25, (upd (σ.2.2.1 25) (z2.toNatClampNeg) z8))] [])) (f := (σ.2.2.1 27)) hx hb hK hG (ga_27 g _) hg18 ((gs_27 g _ _).trans (congrArg (g_cells g) (mk_c 1 rfl rfl))) dX0_fits_116 (fun H locs hG => ?_)
      refine lv_iconst (v := (1 : Int32)) hx hb dX0_fits_117 (by decide) ?_
      cases h
      exact gx_zret hx hb hr hlocks (by decide) hG dX0_fits_118
  · have h := ite_f c4 h
    refine lv_iconst (v := (0 : Int32)) hx hb dX0_fits_14 (by decide) ?_
    cases h
    exact gx_zret hx hb hr hlocks (by decide) hG dX0_fits_15

set_option maxHeartbeats 4000000 in
set_option maxRecDepth 100000 in
theorem c_Lk_look (l : Launch) (g : GC) (σ : St) (w_clashFrom : Int32) (w_clashTo : Int32) (w_holds : Int32) (w_ready : Int32) (w_a : Nat → Int32) (w_b : Nat → Int32) (w_c : Nat → Int32) (h : Lk_look (σ.1 1541) (σ.1 1542) (σ.1 1540) (σ.1 641) (σ.1 1284) (σ.1 1539) (σ.2.2.1 26) (σ.2.2.1 27) (σ.2.2.1 25) (σ.2.2.1 11) (σ.2.2.1 22) (σ.2.2.1 21) = some (w_clashFrom, w_clashTo, w_holds, w_ready, w_a, w_b, w_c)) : Cn l g yX0_look (Cond.code yX0_look cX0_look 5 none :: wG) 2 50 [.ref (g.2.1 24), .ref (g.2.1 10), .ref (g.2.1 20)] σ none (mkS σ [(1541, w_clashFrom), (1542, w_clashTo), (1540, w_holds), (1539, w_ready)] [] [(26, w_a), (27, w_b), (25, w_c)] []) := by
  unfold Cn
  refine Met.ofW (cc := cX0_look) (maxL := 5) (ret := none) (by decide) rfl ?_
  intro p e s m args below meth c s₁ B hml hv
  obtain ⟨hargs, hP0, hK⟩ := hv
  have hx := B.exec
  have hb := B.bytes
  have hr := B.returns
  have hts : ∀ w ∈ wG, w.before args s = true := fun w h => atoms_spec (ws := (Cond.code yX0_look cX0_look 5 none :: wG)) B.pre w (List.mem_cons_of_mem _ h)
  have hown : s.vm.findClass RX0 = some m.cls := findClass_of_methodNamed B.named
  have hlocks := B.notSynchronized
  have hS9 : CallFix p m c cX0_look 5 s args wG RX0 := ⟨hx, hb, hml, hown, hts⟩
  have hw0 := hts _ mw_1_58
  have hw1 := hts _ mw_1_123
  have hw2 := hts _ mw_1_125
  have hw3 := hts _ mw_1_127
  have hw4 := hts _ mw_1_121
  have hw5 := hts _ mw_1_88
  have hw6 := hts _ mw_1_115
  have hf9 : entryFrame m args 5 = _ := (congrArg (fun a => entryFrame m a 5) hargs).trans (lg_entry_eq m [.ref (g.2.1 24), .ref (g.2.1 10), .ref (g.2.1 20)] 5)
  show Wg p l e 2 50 s m args below meth c g none (mkS σ [(1541, w_clashFrom), (1542, w_clashTo), (1540, w_holds), (1539, w_ready)] [] [(26, w_a), (27, w_b), (25, w_c)] []) s.heap [] (entryFrame m args 5)
  rw [hf9]
  have hl := lv_entry ([.ref (g.2.1 24), .ref (g.2.1 10), .ref (g.2.1 20)]) (n := 5) (Nat.le_of_ble_eq_true rfl)
  generalize (lg_sl ([.ref (g.2.1 24), .ref (g.2.1 10), .ref (g.2.1 20)]) ++ List.replicate (5 - (lg_sl ([.ref (g.2.1 24), .ref (g.2.1 10), .ref (g.2.1 20)])).length) Slot.unset).toArray = ls at hl ⊢
  have hl : lv_has ls 5 [(0, .ref (g.2.1 24)), (1, .ref (g.2.1 10)), (2, .ref (g.2.1 20))] := hl
  have hG : GW g s σ s.heap [] := ⟨hP0, va_S.rf⟩
  have hG : GW g s (mkS σ [(1541, (σ.1 1541)), (1542, (σ.1 1542)), (1540, (σ.1 1540)), (1539, (σ.1 1539))] [] [(26, (σ.2.2.1 26)), (27, (σ.2.2.1 27)), (25, (σ.2.2.1 25))] []) s.heap [] := GW_self [1541, 1542, 1540, 1539] [] [26, 27, 25] [] hG
  unfold Lk_look at h
  have n85 : ∀ (k41 : Int32 → Int32 → Int32 → Int32 → Int32 → Int32 → (Nat → Int32) → (Nat → Int32) → (Nat → Int32) → Option (Int32 × Int32 × Int32 × Int32 × (Nat → Int32) × (Nat → Int32) × (Nat → Int32))) (hk41 : ∀ (x3 : Int32) (x4 : Int32) (v_clashFrom : Int32) (v_clashTo : Int32) (v_holds : Int32) (v_ready : Int32) (v_a : Nat → Int32) (v_b : Nat → Int32) (v_c : Nat → Int32) (H : Heap) (locs : List Loc) (ls : Array Slot), lv_has ls 5 [(0, .ref (g.2.1 24)), (1, .ref (g.2.1 10)), (2, .ref (g.2.1 20)), (3, .int x3), (4, .int x4)] → GW g s (mkS σ [(1541, v_clashFrom), (1542, v_clashTo), (1540, v_holds), (1539, v_ready)] [] [(26, v_a), (27, v_b), (25, v_c)] []) H locs → k41 x3 x4 v_clashFrom v_clashTo v_holds v_ready v_a v_b v_c = some (w_clashFrom, w_clashTo, w_holds, w_ready, w_a, w_b, w_c) → Wg p l e 2 50 s m args below meth c g none (mkS σ [(1541, w_clashFrom), (1542, w_clashTo), (1540, w_holds), (1539, w_ready)] [] [(26, w_a), (27, w_b), (25, w_c)] []) H locs (F0 m 41 ls [])) (x3 : Int32) (x4 : Int32) (v_clashFrom : Int32) (v_clashTo : Int32) (v_holds : Int32) (v_ready : Int32) (v_a : Nat → Int32) (v_b : Nat → Int32) (v_c : Nat → Int32) (H : Heap) (locs : List Loc) (ls : Array Slot), lv_has ls 5 [(0, .ref (g.2.1 24)), (1, .ref (g.2.1 10)), (2, .ref (g.2.1 20)), (3, .int x3), (4, .int x4)] → GW g s (mkS σ [(1541, v_clashFrom), (1542, v_clashTo), (1540, v_holds), (1539, v_ready)] [] [(26, v_a), (27, v_b), (25, v_c)] []) H locs → Lk_look_n85 k41 x3 x4 v_clashFrom v_clashTo v_holds v_ready v_a v_b v_c = some (w_clashFrom, w_clashTo, w_holds, w_ready, w_a, w_b, w_c) → Wg p l e 2 50 s m args below meth c g none (mkS σ [(1541, w_clashFrom), (1542, w_clashTo), (1540, w_holds), (1539, w_ready)] [] [(26, w_a), (27, w_b), (25, w_c)] []) H locs (F0 m 85 ls []) := by
    intro k41 hk41 x3 x4 v_clashFrom v_clashTo v_holds v_ready v_a v_b v_c H locs ls hl hG h
    unfold Lk_look_n85 at h
    refine lv_iinc (v := (x4 + (1 : Int32))) (lv' := [(4, .int (x4 + (1 : Int32))), (0, .ref (g.2.1 24)), (1, .ref (g.2.1 10)), (2, .ref (g.2.1 20)), (3, .int x3)]) hx hb dX0_look_85 hl (k := 4) rfl (congrArg (fun z => x4 + z) (by decide)) (Nat.le_of_ble_eq_true rfl) rfl (fun ls hl => ?_)
    refine lv_goto (tgt := 41) hx hb dX0_look_88 (by decide) ?_
    exact hk41 x3 (x4 + (1 : Int32)) v_clashFrom v_clashTo v_holds v_ready v_a v_b v_c _ _ _ (lv_sub hl [1, 2, 3, 4, 0] rfl) hG h
  have n91 : ∀ (k23 : Int32 → Int32 → Int32 → Int32 → Int32 → (Nat → Int32) → (Nat → Int32) → (Nat → Int32) → Option (Int32 × Int32 × Int32 × Int32 × (Nat → Int32) × (Nat → Int32) × (Nat → Int32))) (hk23 : ∀ (x3 : Int32) (v_clashFrom : Int32) (v_clashTo : Int32) (v_holds : Int32) (v_ready : Int32) (v_a : Nat → Int32) (v_b : Nat → Int32) (v_c : Nat → Int32) (H : Heap) (locs : List Loc) (ls : Array Slot), lv_has ls 5 [(0, .ref (g.2.1 24)), (1, .ref (g.2.1 10)), (2, .ref (g.2.1 20)), (3, .int x3)] → GW g s (mkS σ [(1541, v_clashFrom), (1542, v_clashTo), (1540, v_holds), (1539, v_ready)] [] [(26, v_a), (27, v_b), (25, v_c)] []) H locs → k23 x3 v_clashFrom v_clashTo v_holds v_ready v_a v_b v_c = some (w_clashFrom, w_clashTo, w_holds, w_ready, w_a, w_b, w_c) → Wg p l e 2 50 s m args below meth c g none (mkS σ [(1541, w_clashFrom), (1542, w_clashTo), (1540, w_holds), (1539, w_ready)] [] [(26, w_a), (27, w_b), (25, w_c)] []) H locs (F0 m 23 ls [])) (x3 : Int32) (v_clashFrom : Int32) (v_clashTo : Int32) (v_holds : Int32) (v_ready : Int32) (v_a : Nat → Int32) (v_b : Nat → Int32) (v_c : Nat → Int32) (H : Heap) (locs : List Loc) (ls : Array Slot), lv_has ls 5 [(0, .ref (g.2.1 24)), (1, .ref (g.2.1 10)), (2, .ref (g.2.1 20)), (3, .int x3)] → GW g s (mkS σ [(1541, v_clashFrom), (1542, v_clashTo), (1540, v_holds), (1539, v_ready)] [] [(26, v_a), (27, v_b), (25, v_c)] []) H locs → Lk_look_n91 k23 x3 v_clashFrom v_clashTo v_holds v_ready v_a v_b v_c = some (w_clashFrom, w_clashTo, w_holds, w_ready, w_a, w_b, w_c) → Wg p l e 2 50 s m args below meth c g none (mkS σ [(1541, w_clashFrom), (1542, w_clashTo), (1540, w_holds), (1539, w_ready)] [] [(26, w_a), (27, w_b), (25, w_c)] []) H locs (F0 m 91 ls []) := by
    intro k23 hk23 x3 v_clashFrom v_clashTo v_holds v_ready v_a v_b v_c H locs ls hl hG h
    unfold Lk_look_n91 at h
    refine lv_iinc (v := (x3 + (1 : Int32))) (lv' := [(3, .int (x3 + (1 : Int32))), (0, .ref (g.2.1 24)), (1, .ref (g.2.1 10)), (2, .ref (g.2.1 20))]) hx hb dX0_look_91 hl (k := 3) rfl (congrArg (fun z => x3 + z) (by decide)) (Nat.le_of_ble_eq_true rfl) rfl (fun ls hl => ?_)
    refine lv_goto (tgt := 23) hx hb dX0_look_94 (by decide) ?_
    exact hk23 (x3 + (1 : Int32)) v_clashFrom v_clashTo v_holds v_ready v_a v_b v_c _ _ _ (lv_sub hl [1, 2, 3, 0] rfl) hG h
  have n41 : ∀ (k23 : Int32 → Int32 → Int32 → Int32 → Int32 → (Nat → Int32) → (Nat → Int32) → (Nat → Int32) → Option (Int32 × Int32 × Int32 × Int32 × (Nat → Int32) × (Nat → Int32) × (Nat → Int32))) (hk23 : ∀ (x3 : Int32) (v_clashFrom : Int32) (v_clashTo : Int32) (v_holds : Int32) (v_ready : Int32) (v_a : Nat → Int32) (v_b : Nat → Int32) (v_c : Nat → Int32) (H : Heap) (locs : List Loc) (ls : Array Slot), lv_has ls 5 [(0, .ref (g.2.1 24)), (1, .ref (g.2.1 10)), (2, .ref (g.2.1 20)), (3, .int x3)] → GW g s (mkS σ [(1541, v_clashFrom), (1542, v_clashTo), (1540, v_holds), (1539, v_ready)] [] [(26, v_a), (27, v_b), (25, v_c)] []) H locs → k23 x3 v_clashFrom v_clashTo v_holds v_ready v_a v_b v_c = some (w_clashFrom, w_clashTo, w_holds, w_ready, w_a, w_b, w_c) → Wg p l e 2 50 s m args below meth c g none (mkS σ [(1541, w_clashFrom), (1542, w_clashTo), (1540, w_holds), (1539, w_ready)] [] [(26, w_a), (27, w_b), (25, w_c)] []) H locs (F0 m 23 ls [])) (k41 : Int32 → Int32 → Int32 → Int32 → Int32 → Int32 → (Nat → Int32) → (Nat → Int32) → (Nat → Int32) → Option (Int32 × Int32 × Int32 × Int32 × (Nat → Int32) × (Nat → Int32) × (Nat → Int32))) (hk41 : ∀ (x3 : Int32) (x4 : Int32) (v_clashFrom : Int32) (v_clashTo : Int32) (v_holds : Int32) (v_ready : Int32) (v_a : Nat → Int32) (v_b : Nat → Int32) (v_c : Nat → Int32) (H : Heap) (locs : List Loc) (ls : Array Slot), lv_has ls 5 [(0, .ref (g.2.1 24)), (1, .ref (g.2.1 10)), (2, .ref (g.2.1 20)), (3, .int x3), (4, .int x4)] → GW g s (mkS σ [(1541, v_clashFrom), (1542, v_clashTo), (1540, v_holds), (1539, v_ready)] [] [(26, v_a), (27, v_b), (25, v_c)] []) H locs → k41 x3 x4 v_clashFrom v_clashTo v_holds v_ready v_a v_b v_c = some (w_clashFrom, w_clashTo, w_holds, w_ready, w_a, w_b, w_c) → Wg p l e 2 50 s m args below meth c g none (mkS σ [(1541, w_clashFrom), (1542, w_clashTo), (1540, w_holds), (1539, w_ready)] [] [(26, w_a), (27, w_b), (25, w_c)] []) H locs (F0 m 41 ls [])) (x3 : Int32) (x4 : Int32) (v_clashFrom : Int32) (v_clashTo : Int32) (v_holds : Int32) (v_ready : Int32) (v_a : Nat → Int32) (v_b : Nat → Int32) (v_c : Nat → Int32) (H : Heap) (locs : List Loc) (ls : Array Slot), lv_has ls 5 [(0, .ref (g.2.1 24)), (1, .ref (g.2.1 10)), (2, .ref (g.2.1 20)), (3, .int x3), (4, .int x4)] → GW g s (mkS σ [(1541, v_clashFrom), (1542, v_clashTo), (1540, v_holds), (1539, v_ready)] [] [(26, v_a), (27, v_b), (25, v_c)] []) H locs → Lk_look_n41 k23 k41 (σ.1 641) (σ.2.2.1 11) (σ.2.2.1 22) (σ.2.2.1 21) x3 x4 v_clashFrom v_clashTo v_holds v_ready v_a v_b v_c = some (w_clashFrom, w_clashTo, w_holds, w_ready, w_a, w_b, w_c) → Wg p l e 2 50 s m args below meth c g none (mkS σ [(1541, w_clashFrom), (1542, w_clashTo), (1540, w_holds), (1539, w_ready)] [] [(26, w_a), (27, w_b), (25, w_c)] []) H locs (F0 m 41 ls []) := by
    intro k23 hk23 k41 hk41 x3 x4 v_clashFrom v_clashTo v_holds v_ready v_a v_b v_c H locs ls hl hG h
    unfold Lk_look_n41 at h
    refine lv_iload hx hb dX0_look_41 (lv_at hl 4 rfl) ?_
    refine lv_aload_n hx hb dX0_look_43 rfl (lv_at hl 1 rfl) ?_
    refine gx_get (v := .int (σ.1 641)) (C := RX2) (T := TX2) (N := 2) hx hb hts mc_X2 hown hK hG (ga_10 g _) rfl 1 (by decide) hw0 rfl rfl dX0_look_44 ?_
    refine lv_icmp_ge (tgt := 91) hx hb dX0_look_47 (by decide) (fun c1 => ?_) (fun c1 => ?_)
    · have h := ite_t c1 h
      exact n91 k23 hk23 x3 v_clashFrom v_clashTo v_holds v_ready v_a v_b v_c _ _ _ (lv_sub hl [0, 1, 2, 3] rfl) hG h
    · have h := ite_f c1 h
      refine lv_aload_n hx hb dX0_look_50 rfl (lv_at hl 0 rfl) ?_
      refine gx_get (v := .int v_holds) (C := RX0) (T := TX0) (N := 7) hx hb hts mc_X0 hown hK hG (ga_24 g _) rfl 4 (by decide) hw1 rfl rfl dX0_look_51 ?_
      refine lv_if_eq (tgt := 91) hx hb dX0_look_54 (by decide) (fun c2 => ?_) (fun c2 => ?_)
      · have h := ite_t c2 h
        exact n91 k23 hk23 x3 v_clashFrom v_clashTo v_holds v_ready v_a v_b v_c _ _ _ (lv_sub hl [0, 1, 2, 3] rfl) hG h
      · have h := ite_f c2 h
        refine lv_aload_n hx hb dX0_look_57 rfl (lv_at hl 0 rfl) ?_
        refine lv_aload_n hx hb dX0_look_58 rfl (lv_at hl 1 rfl) ?_
        refine lv_aload_n hx hb dX0_look_59 rfl (lv_at hl 2 rfl) ?_
        refine lv_iload_n hx hb dX0_look_60 rfl (lv_at hl 3 rfl) ?_
        refine lv_iload hx hb dX0_look_61 (lv_at hl 4 rfl) ?_
        obtain ⟨z3, hc4, h⟩ := bnd_some h
        refine gx_cV (σ' := (mkS σ [(1541, v_clashFrom), (1542, v_clashTo), (1540, v_holds), (1539, v_ready)] [] [(26, z3.2.1), (27, z3.2.2.1), (25, z3.2.2.2)] [])) (r := (some (.int z3.1))) (rest := []) (As := [.ref (g.2.1 10), .ref (g.2.1 20), .int x3, .int x4]) hS9 (c_Lk_fits l g (mkS σ [(1541, v_clashFrom), (1542, v_clashTo), (1540, v_holds), (1539, v_ready)] [] [(26, v_a), (27, v_b), (25, v_c)] []) x3 x4 z3.1 z3.2.1 z3.2.2.1 z3.2.2.2 hc4) (mk_mk rfl rfl rfl rfl) (cwV 4 hts (gz_V mw_3_91 mw_3_93 ms_1_11 mw_1_6 mw_3_94) rfl rfl rfl hdV_X0_fits ⟨Nat.le_of_ble_eq_true rfl, Nat.le_of_ble_eq_true rfl⟩) hK hG (ga_24 g _) rfl rfl rfl hl.1 rfl (Nat.le_of_ble_eq_true rfl) dX0_look_63 (fun H locs hG => ?_)
        refine W.eq (g2 := F0 m 66 ls [.int z3.1]) rfl ?_
        refine lv_if_ne (tgt := 85) hx hb dX0_look_66 (by decide) (fun c5 => ?_) (fun c5 => ?_)
        · have h := ite_f c5 h
          exact n85 k41 hk41 x3 x4 v_clashFrom v_clashTo v_holds v_ready z3.2.1 z3.2.2.1 z3.2.2.2 _ _ _ (lv_sub hl [0, 1, 2, 3, 4] rfl) hG h
        · have h := ite_t c5 h
          refine lv_aload_n hx hb dX0_look_69 rfl (lv_at hl 0 rfl) ?_
          refine lv_iconst (v := (0 : Int32)) hx hb dX0_look_70 (by decide) ?_
          refine gx_put (σ' := (mkS σ [(1541, v_clashFrom), (1542, v_clashTo), (1540, (0 : Int32)), (1539, v_ready)] [] [(26, z3.2.1), (27, z3.2.2.1), (25, z3.2.2.2)] [])) (C := RX0) (T := TX0) (N := 7) hx hb hts mc_X0 tyX0 tyX0_ok nmX0 hown hK hG (ga_24 g _) rfl 4 (by decide) hw1 rfl rfl (isb_n (by decide)) (isb_f (by decide)) (Nat.le_of_ble_eq_true rfl) ((gf_1540 g _ _).trans (congrArg (g_cells g) (mk_a 2 rfl rfl))) dX0_look_71 (fun H locs hG => ?_)
          refine lv_aload_n hx hb dX0_look_74 rfl (lv_at hl 0 rfl) ?_
          refine lv_iload_n hx hb dX0_look_75 rfl (lv_at hl 3 rfl) ?_
          refine gx_put (σ' := (mkS σ [(1541, x3), (1542, v_clashTo), (1540, (0 : Int32)), (1539, v_ready)] [] [(26, z3.2.1), (27, z3.2.2.1), (25, z3.2.2.2)] [])) (C := RX0) (T := TX0) (N := 7) hx hb hts mc_X0 tyX0 tyX0_ok nmX0 hown hK hG (ga_24 g _) rfl 5 (by decide) hw2 rfl rfl rfl rfl (Nat.le_of_ble_eq_true rfl) ((gf_1541 g _ _).trans (congrArg (g_cells g) (mk_a 0 rfl rfl))) dX0_look_76 (fun H locs hG => ?_)
          refine lv_aload_n hx hb dX0_look_79 rfl (lv_at hl 0 rfl) ?_
          refine lv_iload hx hb dX0_look_80 (lv_at hl 4 rfl) ?_
          refine gx_put (σ' := (mkS σ [(1541, x3), (1542, x4), (1540, (0 : Int32)), (1539, v_ready)] [] [(26, z3.2.1), (27, z3.2.2.1), (25, z3.2.2.2)] [])) (C := RX0) (T := TX0) (N := 7) hx hb hts mc_X0 tyX0 tyX0_ok nmX0 hown hK hG (ga_24 g _) rfl 6 (by decide) hw3 rfl rfl rfl rfl (Nat.le_of_ble_eq_true rfl) ((gf_1542 g _ _).trans (congrArg (g_cells g) (mk_a 1 rfl rfl))) dX0_look_82 (fun H locs hG => ?_)
          exact n85 k41 hk41 x3 x4 x3 x4 (0 : Int32) v_ready z3.2.1 z3.2.2.1 z3.2.2.2 _ _ _ (lv_sub hl [0, 1, 2, 3, 4] rfl) hG h
  have l41 : ∀ (k23 : Int32 → Int32 → Int32 → Int32 → Int32 → (Nat → Int32) → (Nat → Int32) → (Nat → Int32) → Option (Int32 × Int32 × Int32 × Int32 × (Nat → Int32) × (Nat → Int32) × (Nat → Int32))) (hk23 : ∀ (x3 : Int32) (v_clashFrom : Int32) (v_clashTo : Int32) (v_holds : Int32) (v_ready : Int32) (v_a : Nat → Int32) (v_b : Nat → Int32) (v_c : Nat → Int32) (H : Heap) (locs : List Loc) (ls : Array Slot), lv_has ls 5 [(0, .ref (g.2.1 24)), (1, .ref (g.2.1 10)), (2, .ref (g.2.1 20)), (3, .int x3)] → GW g s (mkS σ [(1541, v_clashFrom), (1542, v_clashTo), (1540, v_holds), (1539, v_ready)] [] [(26, v_a), (27, v_b), (25, v_c)] []) H locs → k23 x3 v_clashFrom v_clashTo v_holds v_ready v_a v_b v_c = some (w_clashFrom, w_clashTo, w_holds, w_ready, w_a, w_b, w_c) → Wg p l e 2 50 s m args below meth c g none (mkS σ [(1541, w_clashFrom), (1542, w_clashTo), (1540, w_holds), (1539, w_ready)] [] [(26, w_a), (27, w_b), (25, w_c)] []) H locs (F0 m 23 ls [])) (F : Nat) (x3 : Int32) (x4 : Int32) (v_clashFrom : Int32) (v_clashTo : Int32) (v_holds : Int32) (v_ready : Int32) (v_a : Nat → Int32) (v_b : Nat → Int32) (v_c : Nat → Int32) (H : Heap) (locs : List Loc) (ls : Array Slot), lv_has ls 5 [(0, .ref (g.2.1 24)), (1, .ref (g.2.1 10)), (2, .ref (g.2.1 20)), (3, .int x3), (4, .int x4)] → GW g s (mkS σ [(1541, v_clashFrom), (1542, v_clashTo), (1540, v_holds), (1539, v_ready)] [] [(26, v_a), (27, v_b), (25, v_c)] []) H locs → Lk_look_l41 k23 (σ.1 641) (σ.2.2.1 11) (σ.2.2.1 22) (σ.2.2.1 21) F x3 x4 v_clashFrom v_clashTo v_holds v_ready v_a v_b v_c = some (w_clashFrom, w_clashTo, w_holds, w_ready, w_a, w_b, w_c) → Wg p l e 2 50 s m args below meth c g none (mkS σ [(1541, w_clashFrom), (1542, w_clashTo), (1540, w_holds), (1539, w_ready)] [] [(26, w_a), (27, w_b), (25, w_c)] []) H locs (F0 m 41 ls []) := by
    intro k23 hk23 F
    induction F with
    | zero => intro x3 x4 v_clashFrom v_clashTo v_holds v_ready v_a v_b v_c H locs ls hl hG h; exact no_some h
    | succ F ih => intro x3 x4 v_clashFrom v_clashTo v_holds v_ready v_a v_b v_c H locs ls hl hG h; exact n41 k23 hk23 (fun x3 x4 v_clashFrom v_clashTo v_holds v_ready v_a v_b v_c => Lk_look_l41 k23 (σ.1 641) (σ.2.2.1 11) (σ.2.2.1 22) (σ.2.2.1 21) F x3 x4 v_clashFrom v_clashTo v_holds v_ready v_a v_b v_c) ih x3 x4 v_clashFrom v_clashTo v_holds v_ready v_a v_b v_c H locs ls hl hG h
  have n97 : ∀ (v_clashFrom : Int32) (v_clashTo : Int32) (v_holds : Int32) (v_ready : Int32) (v_a : Nat → Int32) (v_b : Nat → Int32) (v_c : Nat → Int32) (H : Heap) (locs : List Loc) (ls : Array Slot), lv_has ls 5 [] → GW g s (mkS σ [(1541, v_clashFrom), (1542, v_clashTo), (1540, v_holds), (1539, v_ready)] [] [(26, v_a), (27, v_b), (25, v_c)] []) H locs → Lk_look_n97 v_clashFrom v_clashTo v_holds v_ready v_a v_b v_c = some (w_clashFrom, w_clashTo, w_holds, w_ready, w_a, w_b, w_c) → Wg p l e 2 50 s m args below meth c g none (mkS σ [(1541, w_clashFrom), (1542, w_clashTo), (1540, w_holds), (1539, w_ready)] [] [(26, w_a), (27, w_b), (25, w_c)] []) H locs (F0 m 97 ls []) := by
    intro v_clashFrom v_clashTo v_holds v_ready v_a v_b v_c H locs ls hl hG h
    unfold Lk_look_n97 at h
    cases h
    exact gx_vret hx hb hr hlocks hG dX0_look_97
  have n23 : ∀ (k23 : Int32 → Int32 → Int32 → Int32 → Int32 → (Nat → Int32) → (Nat → Int32) → (Nat → Int32) → Option (Int32 × Int32 × Int32 × Int32 × (Nat → Int32) × (Nat → Int32) × (Nat → Int32))) (hk23 : ∀ (x3 : Int32) (v_clashFrom : Int32) (v_clashTo : Int32) (v_holds : Int32) (v_ready : Int32) (v_a : Nat → Int32) (v_b : Nat → Int32) (v_c : Nat → Int32) (H : Heap) (locs : List Loc) (ls : Array Slot), lv_has ls 5 [(0, .ref (g.2.1 24)), (1, .ref (g.2.1 10)), (2, .ref (g.2.1 20)), (3, .int x3)] → GW g s (mkS σ [(1541, v_clashFrom), (1542, v_clashTo), (1540, v_holds), (1539, v_ready)] [] [(26, v_a), (27, v_b), (25, v_c)] []) H locs → k23 x3 v_clashFrom v_clashTo v_holds v_ready v_a v_b v_c = some (w_clashFrom, w_clashTo, w_holds, w_ready, w_a, w_b, w_c) → Wg p l e 2 50 s m args below meth c g none (mkS σ [(1541, w_clashFrom), (1542, w_clashTo), (1540, w_holds), (1539, w_ready)] [] [(26, w_a), (27, w_b), (25, w_c)] []) H locs (F0 m 23 ls [])) (x3 : Int32) (v_clashFrom : Int32) (v_clashTo : Int32) (v_holds : Int32) (v_ready : Int32) (v_a : Nat → Int32) (v_b : Nat → Int32) (v_c : Nat → Int32) (H : Heap) (locs : List Loc) (ls : Array Slot), lv_has ls 5 [(0, .ref (g.2.1 24)), (1, .ref (g.2.1 10)), (2, .ref (g.2.1 20)), (3, .int x3)] → GW g s (mkS σ [(1541, v_clashFrom), (1542, v_clashTo), (1540, v_holds), (1539, v_ready)] [] [(26, v_a), (27, v_b), (25, v_c)] []) H locs → Lk_look_n23 k23 (σ.1 641) (σ.2.2.1 11) (σ.2.2.1 22) (σ.2.2.1 21) x3 v_clashFrom v_clashTo v_holds v_ready v_a v_b v_c = some (w_clashFrom, w_clashTo, w_holds, w_ready, w_a, w_b, w_c) → Wg p l e 2 50 s m args below meth c g none (mkS σ [(1541, w_clashFrom), (1542, w_clashTo), (1540, w_holds), (1539, w_ready)] [] [(26, w_a), (27, w_b), (25, w_c)] []) H locs (F0 m 23 ls []) := by
    intro k23 hk23 x3 v_clashFrom v_clashTo v_holds v_ready v_a v_b v_c H locs ls hl hG h
    unfold Lk_look_n23 at h
    refine lv_iload_n hx hb dX0_look_23 rfl (lv_at hl 3 rfl) ?_
    refine lv_aload_n hx hb dX0_look_24 rfl (lv_at hl 1 rfl) ?_
    refine gx_get (v := .int (σ.1 641)) (C := RX2) (T := TX2) (N := 2) hx hb hts mc_X2 hown hK hG (ga_10 g _) rfl 1 (by decide) hw0 rfl rfl dX0_look_25 ?_
    refine lv_icmp_ge (tgt := 97) hx hb dX0_look_28 (by decide) (fun c6 => ?_) (fun c6 => ?_)
    · have h := ite_t c6 h
      exact n97 v_clashFrom v_clashTo v_holds v_ready v_a v_b v_c _ _ _ (lv_sub hl [] rfl) hG h
    · have h := ite_f c6 h
      refine lv_aload_n hx hb dX0_look_31 rfl (lv_at hl 0 rfl) ?_
      refine gx_get (v := .int v_holds) (C := RX0) (T := TX0) (N := 7) hx hb hts mc_X0 hown hK hG (ga_24 g _) rfl 4 (by decide) hw1 rfl rfl dX0_look_32 ?_
      refine lv_if_eq (tgt := 97) hx hb dX0_look_35 (by decide) (fun c7 => ?_) (fun c7 => ?_)
      · have h := ite_t c7 h
        exact n97 v_clashFrom v_clashTo v_holds v_ready v_a v_b v_c _ _ _ (lv_sub hl [] rfl) hG h
      · have h := ite_f c7 h
        refine lv_iconst (v := (0 : Int32)) hx hb dX0_look_38 (by decide) ?_
        refine lv_istore (lv' := [(4, .int (0 : Int32)), (0, .ref (g.2.1 24)), (1, .ref (g.2.1 10)), (2, .ref (g.2.1 20)), (3, .int x3)]) hx hb dX0_look_39 hl (Nat.le_of_ble_eq_true rfl) rfl (fun ls hl => ?_)
        exact l41 k23 hk23 FUEL x3 (0 : Int32) v_clashFrom v_clashTo v_holds v_ready v_a v_b v_c _ _ _ (lv_sub hl [1, 2, 3, 4, 0] rfl) hG h
  have l23 : ∀  (F : Nat) (x3 : Int32) (v_clashFrom : Int32) (v_clashTo : Int32) (v_holds : Int32) (v_ready : Int32) (v_a : Nat → Int32) (v_b : Nat → Int32) (v_c : Nat → Int32) (H : Heap) (locs : List Loc) (ls : Array Slot), lv_has ls 5 [(0, .ref (g.2.1 24)), (1, .ref (g.2.1 10)), (2, .ref (g.2.1 20)), (3, .int x3)] → GW g s (mkS σ [(1541, v_clashFrom), (1542, v_clashTo), (1540, v_holds), (1539, v_ready)] [] [(26, v_a), (27, v_b), (25, v_c)] []) H locs → Lk_look_l23 (σ.1 641) (σ.2.2.1 11) (σ.2.2.1 22) (σ.2.2.1 21) F x3 v_clashFrom v_clashTo v_holds v_ready v_a v_b v_c = some (w_clashFrom, w_clashTo, w_holds, w_ready, w_a, w_b, w_c) → Wg p l e 2 50 s m args below meth c g none (mkS σ [(1541, w_clashFrom), (1542, w_clashTo), (1540, w_holds), (1539, w_ready)] [] [(26, w_a), (27, w_b), (25, w_c)] []) H locs (F0 m 23 ls []) := by
    intro F
    induction F with
    | zero => intro x3 v_clashFrom v_clashTo v_holds v_ready v_a v_b v_c H locs ls hl hG h; exact no_some h
    | succ F ih => intro x3 v_clashFrom v_clashTo v_holds v_ready v_a v_b v_c H locs ls hl hG h; exact n23 (fun x3 v_clashFrom v_clashTo v_holds v_ready v_a v_b v_c => Lk_look_l23 (σ.1 641) (σ.2.2.1 11) (σ.2.2.1 22) (σ.2.2.1 21) F x3 v_clashFrom v_clashTo v_holds v_ready v_a v_b v_c) ih x3 v_clashFrom v_clashTo v_holds v_ready v_a v_b v_c H locs ls hl hG h
  refine lv_aload_n hx hb dX0_look_0 rfl (lv_at hl 0 rfl) ?_
  refine lv_iconst (v := (1 : Int32)) hx hb dX0_look_1 (by decide) ?_
  refine gx_put (σ' := (mkS σ [(1541, (σ.1 1541)), (1542, (σ.1 1542)), (1540, (σ.1 1540)), (1539, (1 : Int32))] [] [(26, (σ.2.2.1 26)), (27, (σ.2.2.1 27)), (25, (σ.2.2.1 25))] [])) (C := RX0) (T := TX0) (N := 7) hx hb hts mc_X0 tyX0 tyX0_ok nmX0 hown hK hG (ga_24 g _) rfl 3 (by decide) hw4 rfl rfl (isb_n (by decide)) (isb_f (by decide)) (Nat.le_of_ble_eq_true rfl) ((gf_1539 g _ _).trans (congrArg (g_cells g) (mk_a 3 rfl rfl))) dX0_look_2 (fun H locs hG => ?_)
  refine lv_aload_n hx hb dX0_look_5 rfl (lv_at hl 0 rfl) ?_
  refine lv_aload_n hx hb dX0_look_6 rfl (lv_at hl 2 rfl) ?_
  refine gx_get (v := .int (σ.1 1284)) (C := RX7) (T := TX7) (N := 7) hx hb hts mc_X7 hown hK hG (ga_20 g _) rfl 4 (by decide) hw5 rfl rfl dX0_look_7 ?_
  obtain ⟨hg8, h⟩ := gd_some h
  refine gx_put (σ' := (mkS σ [(1541, (σ.1 1541)), (1542, (σ.1 1542)), (1540, (σ.1 1284)), (1539, (1 : Int32))] [] [(26, (σ.2.2.1 26)), (27, (σ.2.2.1 27)), (25, (σ.2.2.1 25))] [])) (C := RX0) (T := TX0) (N := 7) hx hb hts mc_X0 tyX0 tyX0_ok nmX0 hown hK hG (ga_24 g _) rfl 4 (by decide) hw1 rfl rfl (isb_n hg8) (isb_f hg8) (Nat.le_of_ble_eq_true rfl) ((gf_1540 g _ _).trans (congrArg (g_cells g) (mk_a 2 rfl rfl))) dX0_look_10 (fun H locs hG => ?_)
  refine lv_aload_n hx hb dX0_look_13 rfl (lv_at hl 0 rfl) ?_
  refine gx_get (v := .ref (g.2.1 25)) (C := RX0) (T := TX0) (N := 7) hx hb hts mc_X0 hown hK hG (ga_24 g _) rfl 0 (by decide) hw6 rfl rfl dX0_look_14 ?_
  refine lv_iconst (v := (-1 : Int32)) hx hb dX0_look_17 (by decide) ?_
  obtain ⟨z9, hc10, h⟩ := bnd_some h
  refine gx_cS (σ' := (mkS σ [(1541, (σ.1 1541)), (1542, (σ.1 1542)), (1540, (σ.1 1284)), (1539, (1 : Int32))] [] [(26, (σ.2.2.1 26)), (27, (σ.2.2.1 27)), (25, z9)] [])) (r := none) (rest := []) (As := [.ref (g.2.1 25), .int (-1 : Int32)]) hS9 (c_JA_fillI_25 l g (mkS σ [(1541, (σ.1 1541)), (1542, (σ.1 1542)), (1540, (σ.1 1284)), (1539, (1 : Int32))] [] [(26, (σ.2.2.1 26)), (27, (σ.2.2.1 27)), (25, (σ.2.2.1 25))] []) (-1 : Int32) z9 hc10) (mk_mk rfl rfl rfl rfl) (va_cwS 2 hts (gz_S mw_3_90 mw_1_155 mw_1_8 mw_1_156) rfl rfl rfl hdS_J7_fill_53178 ⟨Nat.le_of_ble_eq_true rfl, Nat.le_of_ble_eq_true rfl⟩) hK hG rfl hl.1 rfl (Nat.le_of_ble_eq_true rfl) dX0_look_18 (fun H locs hG => ?_)
  refine W.eq (g2 := F0 m 21 ls []) rfl ?_
  refine lv_iconst (v := (0 : Int32)) hx hb dX0_look_21 (by decide) ?_
  refine lv_istore_n (lv' := [(3, .int (0 : Int32)), (0, .ref (g.2.1 24)), (1, .ref (g.2.1 10)), (2, .ref (g.2.1 20))]) hx hb dX0_look_22 rfl hl (Nat.le_of_ble_eq_true rfl) rfl (fun ls hl => ?_)
  exact l23 FUEL (0 : Int32) (σ.1 1541) (σ.1 1542) (σ.1 1284) (1 : Int32) (σ.2.2.1 26) (σ.2.2.1 27) z9 _ _ _ (lv_sub hl [1, 2, 3, 0] rfl) hG h

set_option maxHeartbeats 4000000 in
set_option maxRecDepth 100000 in
theorem c_LN_isLike (l : Launch) (g : GC) (σ : St) (r : Int32) (w_likeness_clashFrom : Int32) (w_likeness_clashTo : Int32) (w_likeness_holds : Int32) (w_likeness_ready : Int32) (w_ways_far : Int32) (w_ways_ready : Int32) (w_ways_size : Int32) (w_ways_whole : Int32) (w_likeness_a : Nat → Int32) (w_likeness_b : Nat → Int32) (w_likeness_c : Nat → Int32) (w_ways_layers : Nat → Int32) (w_ways_reached : Nat → Int32) (w_ways_steps : Nat → Int32) (h : LN_isLike (σ.1 1541) (σ.1 1542) (σ.1 1540) (σ.1 1539) (σ.1 641) (σ.1 1286) (σ.1 1283) (σ.1 1285) (σ.1 1284) (σ.2.2.1 26) (σ.2.2.1 27) (σ.2.2.1 25) (σ.2.2.1 11) (σ.2.2.1 22) (σ.2.2.1 23) (σ.2.2.1 21) = some (r, w_likeness_clashFrom, w_likeness_clashTo, w_likeness_holds, w_likeness_ready, w_ways_far, w_ways_ready, w_ways_size, w_ways_whole, w_likeness_a, w_likeness_b, w_likeness_c, w_ways_layers, w_ways_reached, w_ways_steps)) : Cn l g yX8_isLike (Cond.code yX8_isLike cX8_isLike 1 (some .boolean) :: wG) 5 114 [.ref (g.2.1 0)] σ (some (.int r)) (mkS σ [(1541, w_likeness_clashFrom), (1542, w_likeness_clashTo), (1540, w_likeness_holds), (1539, w_likeness_ready), (1286, w_ways_far), (1283, w_ways_ready), (1285, w_ways_size), (1284, w_ways_whole)] [] [(26, w_likeness_a), (27, w_likeness_b), (25, w_likeness_c), (22, w_ways_layers), (23, w_ways_reached), (21, w_ways_steps)] []) := by
  unfold Cn
  refine Met.ofW (cc := cX8_isLike) (maxL := 1) (ret := (some .boolean)) (by decide) rfl ?_
  intro p e s m args below meth c s₁ B hml hv
  obtain ⟨hargs, hP0, hK⟩ := hv
  have hx := B.exec
  have hb := B.bytes
  have hr := B.returns
  have hts : ∀ w ∈ wG, w.before args s = true := fun w h => atoms_spec (ws := (Cond.code yX8_isLike cX8_isLike 1 (some .boolean) :: wG)) B.pre w (List.mem_cons_of_mem _ h)
  have hown : s.vm.findClass RX8 = some m.cls := findClass_of_methodNamed B.named
  have hlocks := B.notSynchronized
  have hS9 : CallFix p m c cX8_isLike 1 s args wG RX8 := ⟨hx, hb, hml, hown, hts⟩
  have hw0 := hts _ mw_2_45
  have hw1 := hts _ mw_1_124
  have hw2 := hts _ mw_1_122
  have hw3 := hts _ mw_2_38
  have hw4 := hts _ mw_2_44
  have hf9 : entryFrame m args 1 = _ := (congrArg (fun a => entryFrame m a 1) hargs).trans (lg_entry_eq m [.ref (g.2.1 0)] 1)
  show Wg p l e 5 114 s m args below meth c g (some (.int r)) (mkS σ [(1541, w_likeness_clashFrom), (1542, w_likeness_clashTo), (1540, w_likeness_holds), (1539, w_likeness_ready), (1286, w_ways_far), (1283, w_ways_ready), (1285, w_ways_size), (1284, w_ways_whole)] [] [(26, w_likeness_a), (27, w_likeness_b), (25, w_likeness_c), (22, w_ways_layers), (23, w_ways_reached), (21, w_ways_steps)] []) s.heap [] (entryFrame m args 1)
  rw [hf9]
  have hl := lv_entry ([.ref (g.2.1 0)]) (n := 1) (Nat.le_of_ble_eq_true rfl)
  generalize (lg_sl ([.ref (g.2.1 0)]) ++ List.replicate (1 - (lg_sl ([.ref (g.2.1 0)])).length) Slot.unset).toArray = ls at hl ⊢
  have hl : lv_has ls 1 [(0, .ref (g.2.1 0))] := hl
  have hG : GW g s σ s.heap [] := ⟨hP0, va_S.rf⟩
  have hG : GW g s (mkS σ [(1541, (σ.1 1541)), (1542, (σ.1 1542)), (1540, (σ.1 1540)), (1539, (σ.1 1539)), (1286, (σ.1 1286)), (1283, (σ.1 1283)), (1285, (σ.1 1285)), (1284, (σ.1 1284))] [] [(26, (σ.2.2.1 26)), (27, (σ.2.2.1 27)), (25, (σ.2.2.1 25)), (22, (σ.2.2.1 22)), (23, (σ.2.2.1 23)), (21, (σ.2.2.1 21))] []) s.heap [] := GW_self [1541, 1542, 1540, 1539, 1286, 1283, 1285, 1284] [] [26, 27, 25, 22, 23, 21] [] hG
  unfold LN_isLike at h
  have n29 : ∀ (v_likeness_clashFrom : Int32) (v_likeness_clashTo : Int32) (v_likeness_holds : Int32) (v_likeness_ready : Int32) (v_ways_far : Int32) (v_ways_ready : Int32) (v_ways_size : Int32) (v_ways_whole : Int32) (v_likeness_a : Nat → Int32) (v_likeness_b : Nat → Int32) (v_likeness_c : Nat → Int32) (v_ways_layers : Nat → Int32) (v_ways_reached : Nat → Int32) (v_ways_steps : Nat → Int32) (H : Heap) (locs : List Loc) (ls : Array Slot), lv_has ls 1 [(0, .ref (g.2.1 0))] → GW g s (mkS σ [(1541, v_likeness_clashFrom), (1542, v_likeness_clashTo), (1540, v_likeness_holds), (1539, v_likeness_ready), (1286, v_ways_far), (1283, v_ways_ready), (1285, v_ways_size), (1284, v_ways_whole)] [] [(26, v_likeness_a), (27, v_likeness_b), (25, v_likeness_c), (22, v_ways_layers), (23, v_ways_reached), (21, v_ways_steps)] []) H locs → LN_isLike_n29 v_likeness_clashFrom v_likeness_clashTo v_likeness_holds v_likeness_ready v_ways_far v_ways_ready v_ways_size v_ways_whole v_likeness_a v_likeness_b v_likeness_c v_ways_layers v_ways_reached v_ways_steps = some (r, w_likeness_clashFrom, w_likeness_clashTo, w_likeness_holds, w_likeness_ready, w_ways_far, w_ways_ready, w_ways_size, w_ways_whole, w_likeness_a, w_likeness_b, w_likeness_c, w_ways_layers, w_ways_reached, w_ways_steps) → Wg p l e 5 114 s m args below meth c g (some (.int r)) (mkS σ [(1541, w_likeness_clashFrom), (1542, w_likeness_clashTo), (1540, w_likeness_holds), (1539, w_likeness_ready), (1286, w_ways_far), (1283, w_ways_ready), (1285, w_ways_size), (1284, w_ways_whole)] [] [(26, w_likeness_a), (27, w_likeness_b), (25, w_likeness_c), (22, w_ways_layers), (23, w_ways_reached), (21, w_ways_steps)] []) H locs (F0 m 29 ls []) := by
    intro v_likeness_clashFrom v_likeness_clashTo v_likeness_holds v_likeness_ready v_ways_far v_ways_ready v_ways_size v_ways_whole v_likeness_a v_likeness_b v_likeness_c v_ways_layers v_ways_reached v_ways_steps H locs ls hl hG h
    unfold LN_isLike_n29 at h
    refine lv_aload_n hx hb dX8_isLike_29 rfl (lv_at hl 0 rfl) ?_
    refine gx_get (v := .ref (g.2.1 24)) (C := RX8) (T := TX8) (N := 13) hx hb hts mc_X8 hown hK hG (ga_0 g _) rfl 8 (by decide) hw0 rfl rfl dX8_isLike_30 ?_
    refine gx_get (v := .int v_likeness_holds) (C := RX0) (T := TX0) (N := 7) hx hb hts mc_X0 hown hK hG (ga_24 g _) rfl 4 (by decide) hw1 rfl rfl dX8_isLike_33 ?_
    obtain ⟨hg1, h⟩ := gd_some h
    cases h
    exact gx_zret hx hb hr hlocks hg1 hG dX8_isLike_36
  refine lv_aload_n hx hb dX8_isLike_0 rfl (lv_at hl 0 rfl) ?_
  refine gx_get (v := .ref (g.2.1 24)) (C := RX8) (T := TX8) (N := 13) hx hb hts mc_X8 hown hK hG (ga_0 g _) rfl 8 (by decide) hw0 rfl rfl dX8_isLike_1 ?_
  refine gx_get (v := .int (σ.1 1539)) (C := RX0) (T := TX0) (N := 7) hx hb hts mc_X0 hown hK hG (ga_24 g _) rfl 3 (by decide) hw2 rfl rfl dX8_isLike_4 ?_
  refine lv_if_ne (tgt := 29) hx hb dX8_isLike_7 (by decide) (fun c2 => ?_) (fun c2 => ?_)
  · have h := ite_f c2 h
    exact n29 (σ.1 1541) (σ.1 1542) (σ.1 1540) (σ.1 1539) (σ.1 1286) (σ.1 1283) (σ.1 1285) (σ.1 1284) (σ.2.2.1 26) (σ.2.2.1 27) (σ.2.2.1 25) (σ.2.2.1 22) (σ.2.2.1 23) (σ.2.2.1 21) _ _ _ (lv_sub hl [0] rfl) hG h
  · have h := ite_t c2 h
    refine lv_aload_n hx hb dX8_isLike_10 rfl (lv_at hl 0 rfl) ?_
    obtain ⟨z3, hc4, h⟩ := bnd_some h
    refine gx_cV (σ' := (mkS σ [(1541, (σ.1 1541)), (1542, (σ.1 1542)), (1540, (σ.1 1540)), (1539, (σ.1 1539)), (1286, z3.1), (1283, z3.2.1), (1285, z3.2.2.1), (1284, z3.2.2.2.1)] [] [(26, (σ.2.2.1 26)), (27, (σ.2.2.1 27)), (25, (σ.2.2.1 25)), (22, z3.2.2.2.2.1), (23, z3.2.2.2.2.2.1), (21, z3.2.2.2.2.2.2)] [])) (r := none) (rest := []) (As := []) hS9 (c_LN_measure l g (mkS σ [(1541, (σ.1 1541)), (1542, (σ.1 1542)), (1540, (σ.1 1540)), (1539, (σ.1 1539)), (1286, (σ.1 1286)), (1283, (σ.1 1283)), (1285, (σ.1 1285)), (1284, (σ.1 1284))] [] [(26, (σ.2.2.1 26)), (27, (σ.2.2.1 27)), (25, (σ.2.2.1 25)), (22, (σ.2.2.1 22)), (23, (σ.2.2.1 23)), (21, (σ.2.2.1 21))] []) z3.1 z3.2.1 z3.2.2.1 z3.2.2.2.1 z3.2.2.2.2.1 z3.2.2.2.2.2.1 z3.2.2.2.2.2.2 hc4) (mk_mk rfl rfl rfl rfl) (cwV 0 hts (gz_V mw_3_5 mw_3_7 ms_1_6 mw_1_1 mw_3_8) rfl rfl rfl hdV_X8_measure ⟨Nat.le_of_ble_eq_true rfl, Nat.le_of_ble_eq_true rfl⟩) hK hG (ga_0 g _) rfl rfl rfl hl.1 rfl (Nat.le_of_ble_eq_true rfl) dX8_isLike_11 (fun H locs hG => ?_)
    refine W.eq (g2 := F0 m 14 ls []) rfl ?_
    refine lv_aload_n hx hb dX8_isLike_14 rfl (lv_at hl 0 rfl) ?_
    refine gx_get (v := .ref (g.2.1 24)) (C := RX8) (T := TX8) (N := 13) hx hb hts mc_X8 hown hK hG (ga_0 g _) rfl 8 (by decide) hw0 rfl rfl dX8_isLike_15 ?_
    refine lv_aload_n hx hb dX8_isLike_18 rfl (lv_at hl 0 rfl) ?_
    refine gx_get (v := .ref (g.2.1 10)) (C := RX8) (T := TX8) (N := 13) hx hb hts mc_X8 hown hK hG (ga_0 g _) rfl 1 (by decide) hw3 rfl rfl dX8_isLike_19 ?_
    refine lv_aload_n hx hb dX8_isLike_22 rfl (lv_at hl 0 rfl) ?_
    refine gx_get (v := .ref (g.2.1 20)) (C := RX8) (T := TX8) (N := 13) hx hb hts mc_X8 hown hK hG (ga_0 g _) rfl 7 (by decide) hw4 rfl rfl dX8_isLike_23 ?_
    obtain ⟨z5, hc6, h⟩ := bnd_some h
    refine gx_cV (σ' := (mkS σ [(1541, z5.1), (1542, z5.2.1), (1540, z5.2.2.1), (1539, z5.2.2.2.1), (1286, z3.1), (1283, z3.2.1), (1285, z3.2.2.1), (1284, z3.2.2.2.1)] [] [(26, z5.2.2.2.2.1), (27, z5.2.2.2.2.2.1), (25, z5.2.2.2.2.2.2), (22, z3.2.2.2.2.1), (23, z3.2.2.2.2.2.1), (21, z3.2.2.2.2.2.2)] [])) (r := none) (rest := []) (As := [.ref (g.2.1 10), .ref (g.2.1 20)]) hS9 (c_Lk_look l g (mkS σ [(1541, (σ.1 1541)), (1542, (σ.1 1542)), (1540, (σ.1 1540)), (1539, (σ.1 1539)), (1286, z3.1), (1283, z3.2.1), (1285, z3.2.2.1), (1284, z3.2.2.2.1)] [] [(26, (σ.2.2.1 26)), (27, (σ.2.2.1 27)), (25, (σ.2.2.1 25)), (22, z3.2.2.2.2.1), (23, z3.2.2.2.2.2.1), (21, z3.2.2.2.2.2.2)] []) z5.1 z5.2.1 z5.2.2.1 z5.2.2.2.1 z5.2.2.2.2.1 z5.2.2.2.2.2.1 z5.2.2.2.2.2.2 hc6) (mk_mk rfl rfl rfl rfl) (cwV 2 hts (gz_V mw_3_86 mw_3_87 mw_3_88 mw_1_6 mw_3_89) rfl rfl rfl hdV_X0_look ⟨Nat.le_of_ble_eq_true rfl, Nat.le_of_ble_eq_true rfl⟩) hK hG (ga_24 g _) rfl rfl rfl hl.1 rfl (Nat.le_of_ble_eq_true rfl) dX8_isLike_26 (fun H locs hG => ?_)
    refine W.eq (g2 := F0 m 29 ls []) rfl ?_
    exact n29 z5.1 z5.2.1 z5.2.2.1 z5.2.2.2.1 z3.1 z3.2.1 z3.2.2.1 z3.2.2.2.1 z5.2.2.2.2.1 z5.2.2.2.2.2.1 z5.2.2.2.2.2.2 z3.2.2.2.2.1 z3.2.2.2.2.2.1 z3.2.2.2.2.2.2 _ _ _ (lv_sub hl [0] rfl) hG h

set_option maxHeartbeats 4000000 in
set_option maxRecDepth 100000 in
theorem c_LN_clash (l : Launch) (g : GC) (σ : St) (x1 : Int32) (r : Int32) (w_likeness_clashFrom : Int32) (w_likeness_clashTo : Int32) (w_likeness_holds : Int32) (w_likeness_ready : Int32) (w_ways_far : Int32) (w_ways_ready : Int32) (w_ways_size : Int32) (w_ways_whole : Int32) (w_likeness_a : Nat → Int32) (w_likeness_b : Nat → Int32) (w_likeness_c : Nat → Int32) (w_ways_layers : Nat → Int32) (w_ways_reached : Nat → Int32) (w_ways_steps : Nat → Int32) (h : LN_clash x1 (σ.1 1541) (σ.1 1542) (σ.1 1540) (σ.1 1539) (σ.1 641) (σ.1 1286) (σ.1 1283) (σ.1 1285) (σ.1 1284) (σ.2.2.1 26) (σ.2.2.1 27) (σ.2.2.1 25) (σ.2.2.1 11) (σ.2.2.1 22) (σ.2.2.1 23) (σ.2.2.1 21) = some (r, w_likeness_clashFrom, w_likeness_clashTo, w_likeness_holds, w_likeness_ready, w_ways_far, w_ways_ready, w_ways_size, w_ways_whole, w_likeness_a, w_likeness_b, w_likeness_c, w_ways_layers, w_ways_reached, w_ways_steps)) : Cn l g yX8_clash (Cond.code yX8_clash cX8_clash 2 (some .int) :: wG) 6 134 [.ref (g.2.1 0), .int x1] σ (some (.int r)) (mkS σ [(1541, w_likeness_clashFrom), (1542, w_likeness_clashTo), (1540, w_likeness_holds), (1539, w_likeness_ready), (1286, w_ways_far), (1283, w_ways_ready), (1285, w_ways_size), (1284, w_ways_whole)] [] [(26, w_likeness_a), (27, w_likeness_b), (25, w_likeness_c), (22, w_ways_layers), (23, w_ways_reached), (21, w_ways_steps)] []) := by
  unfold Cn
  refine Met.ofW (cc := cX8_clash) (maxL := 2) (ret := (some .int)) (by decide) rfl ?_
  intro p e s m args below meth c s₁ B hml hv
  obtain ⟨hargs, hP0, hK⟩ := hv
  have hx := B.exec
  have hb := B.bytes
  have hr := B.returns
  have hts : ∀ w ∈ wG, w.before args s = true := fun w h => atoms_spec (ws := (Cond.code yX8_clash cX8_clash 2 (some .int) :: wG)) B.pre w (List.mem_cons_of_mem _ h)
  have hown : s.vm.findClass RX8 = some m.cls := findClass_of_methodNamed B.named
  have hlocks := B.notSynchronized
  have hS9 : CallFix p m c cX8_clash 2 s args wG RX8 := ⟨hx, hb, hml, hown, hts⟩
  have hw0 := hts _ mw_2_44
  have hw1 := hts _ mw_1_90
  have hw2 := hts _ mw_2_45
  have hw3 := hts _ mw_1_128
  have hw4 := hts _ mw_1_126
  have hf9 : entryFrame m args 2 = _ := (congrArg (fun a => entryFrame m a 2) hargs).trans (lg_entry_eq m [.ref (g.2.1 0), .int x1] 2)
  show Wg p l e 6 134 s m args below meth c g (some (.int r)) (mkS σ [(1541, w_likeness_clashFrom), (1542, w_likeness_clashTo), (1540, w_likeness_holds), (1539, w_likeness_ready), (1286, w_ways_far), (1283, w_ways_ready), (1285, w_ways_size), (1284, w_ways_whole)] [] [(26, w_likeness_a), (27, w_likeness_b), (25, w_likeness_c), (22, w_ways_layers), (23, w_ways_reached), (21, w_ways_steps)] []) s.heap [] (entryFrame m args 2)
  rw [hf9]
  have hl := lv_entry ([.ref (g.2.1 0), .int x1]) (n := 2) (Nat.le_of_ble_eq_true rfl)
  generalize (lg_sl ([.ref (g.2.1 0), .int x1]) ++ List.replicate (2 - (lg_sl ([.ref (g.2.1 0), .int x1])).length) Slot.unset).toArray = ls at hl ⊢
  have hl : lv_has ls 2 [(0, .ref (g.2.1 0)), (1, .int x1)] := hl
  have hG : GW g s σ s.heap [] := ⟨hP0, va_S.rf⟩
  have hG : GW g s (mkS σ [(1541, (σ.1 1541)), (1542, (σ.1 1542)), (1540, (σ.1 1540)), (1539, (σ.1 1539)), (1286, (σ.1 1286)), (1283, (σ.1 1283)), (1285, (σ.1 1285)), (1284, (σ.1 1284))] [] [(26, (σ.2.2.1 26)), (27, (σ.2.2.1 27)), (25, (σ.2.2.1 25)), (22, (σ.2.2.1 22)), (23, (σ.2.2.1 23)), (21, (σ.2.2.1 21))] []) s.heap [] := GW_self [1541, 1542, 1540, 1539, 1286, 1283, 1285, 1284] [] [26, 27, 25, 22, 23, 21] [] hG
  unfold LN_clash at h
  have n59 : ∀ (t0 : Int32) (v_likeness_clashFrom : Int32) (v_likeness_clashTo : Int32) (v_likeness_holds : Int32) (v_likeness_ready : Int32) (v_ways_far : Int32) (v_ways_ready : Int32) (v_ways_size : Int32) (v_ways_whole : Int32) (v_likeness_a : Nat → Int32) (v_likeness_b : Nat → Int32) (v_likeness_c : Nat → Int32) (v_ways_layers : Nat → Int32) (v_ways_reached : Nat → Int32) (v_ways_steps : Nat → Int32) (H : Heap) (locs : List Loc) (ls : Array Slot), lv_has ls 2 [] → GW g s (mkS σ [(1541, v_likeness_clashFrom), (1542, v_likeness_clashTo), (1540, v_likeness_holds), (1539, v_likeness_ready), (1286, v_ways_far), (1283, v_ways_ready), (1285, v_ways_size), (1284, v_ways_whole)] [] [(26, v_likeness_a), (27, v_likeness_b), (25, v_likeness_c), (22, v_ways_layers), (23, v_ways_reached), (21, v_ways_steps)] []) H locs → LN_clash_n59 t0 v_likeness_clashFrom v_likeness_clashTo v_likeness_holds v_likeness_ready v_ways_far v_ways_ready v_ways_size v_ways_whole v_likeness_a v_likeness_b v_likeness_c v_ways_layers v_ways_reached v_ways_steps = some (r, w_likeness_clashFrom, w_likeness_clashTo, w_likeness_holds, w_likeness_ready, w_ways_far, w_ways_ready, w_ways_size, w_ways_whole, w_likeness_a, w_likeness_b, w_likeness_c, w_ways_layers, w_ways_reached, w_ways_steps) → Wg p l e 6 134 s m args below meth c g (some (.int r)) (mkS σ [(1541, w_likeness_clashFrom), (1542, w_likeness_clashTo), (1540, w_likeness_holds), (1539, w_likeness_ready), (1286, w_ways_far), (1283, w_ways_ready), (1285, w_ways_size), (1284, w_ways_whole)] [] [(26, w_likeness_a), (27, w_likeness_b), (25, w_likeness_c), (22, w_ways_layers), (23, w_ways_reached), (21, w_ways_steps)] []) H locs (F0 m 59 ls [.int t0]) := by
    intro t0 v_likeness_clashFrom v_likeness_clashTo v_likeness_holds v_likeness_ready v_ways_far v_ways_ready v_ways_size v_ways_whole v_likeness_a v_likeness_b v_likeness_c v_ways_layers v_ways_reached v_ways_steps H locs ls hl hG h
    unfold LN_clash_n59 at h
    cases h
    exact gx_iret hx hb hr hlocks hG dX8_clash_59
  have n11 : ∀ (x1 : Int32) (v_likeness_clashFrom : Int32) (v_likeness_clashTo : Int32) (v_likeness_holds : Int32) (v_likeness_ready : Int32) (v_ways_far : Int32) (v_ways_ready : Int32) (v_ways_size : Int32) (v_ways_whole : Int32) (v_likeness_a : Nat → Int32) (v_likeness_b : Nat → Int32) (v_likeness_c : Nat → Int32) (v_ways_layers : Nat → Int32) (v_ways_reached : Nat → Int32) (v_ways_steps : Nat → Int32) (H : Heap) (locs : List Loc) (ls : Array Slot), lv_has ls 2 [(0, .ref (g.2.1 0)), (1, .int x1)] → GW g s (mkS σ [(1541, v_likeness_clashFrom), (1542, v_likeness_clashTo), (1540, v_likeness_holds), (1539, v_likeness_ready), (1286, v_ways_far), (1283, v_ways_ready), (1285, v_ways_size), (1284, v_ways_whole)] [] [(26, v_likeness_a), (27, v_likeness_b), (25, v_likeness_c), (22, v_ways_layers), (23, v_ways_reached), (21, v_ways_steps)] []) H locs → LN_clash_n11 (σ.1 641) (σ.2.2.1 11) x1 v_likeness_clashFrom v_likeness_clashTo v_likeness_holds v_likeness_ready v_ways_far v_ways_ready v_ways_size v_ways_whole v_likeness_a v_likeness_b v_likeness_c v_ways_layers v_ways_reached v_ways_steps = some (r, w_likeness_clashFrom, w_likeness_clashTo, w_likeness_holds, w_likeness_ready, w_ways_far, w_ways_ready, w_ways_size, w_ways_whole, w_likeness_a, w_likeness_b, w_likeness_c, w_ways_layers, w_ways_reached, w_ways_steps) → Wg p l e 6 134 s m args below meth c g (some (.int r)) (mkS σ [(1541, w_likeness_clashFrom), (1542, w_likeness_clashTo), (1540, w_likeness_holds), (1539, w_likeness_ready), (1286, w_ways_far), (1283, w_ways_ready), (1285, w_ways_size), (1284, w_ways_whole)] [] [(26, w_likeness_a), (27, w_likeness_b), (25, w_likeness_c), (22, w_ways_layers), (23, w_ways_reached), (21, w_ways_steps)] []) H locs (F0 m 11 ls []) := by
    intro x1 v_likeness_clashFrom v_likeness_clashTo v_likeness_holds v_likeness_ready v_ways_far v_ways_ready v_ways_size v_ways_whole v_likeness_a v_likeness_b v_likeness_c v_ways_layers v_ways_reached v_ways_steps H locs ls hl hG h
    unfold LN_clash_n11 at h
    refine lv_aload_n hx hb dX8_clash_11 rfl (lv_at hl 0 rfl) ?_
    obtain ⟨z1, hc2, h⟩ := bnd_some h
    refine gx_cV (σ' := (mkS σ [(1541, v_likeness_clashFrom), (1542, v_likeness_clashTo), (1540, v_likeness_holds), (1539, v_likeness_ready), (1286, z1.1), (1283, z1.2.1), (1285, z1.2.2.1), (1284, z1.2.2.2.1)] [] [(26, v_likeness_a), (27, v_likeness_b), (25, v_likeness_c), (22, z1.2.2.2.2.1), (23, z1.2.2.2.2.2.1), (21, z1.2.2.2.2.2.2)] [])) (r := none) (rest := []) (As := []) hS9 (c_LN_measure l g (mkS σ [(1541, v_likeness_clashFrom), (1542, v_likeness_clashTo), (1540, v_likeness_holds), (1539, v_likeness_ready), (1286, v_ways_far), (1283, v_ways_ready), (1285, v_ways_size), (1284, v_ways_whole)] [] [(26, v_likeness_a), (27, v_likeness_b), (25, v_likeness_c), (22, v_ways_layers), (23, v_ways_reached), (21, v_ways_steps)] []) z1.1 z1.2.1 z1.2.2.1 z1.2.2.2.1 z1.2.2.2.2.1 z1.2.2.2.2.2.1 z1.2.2.2.2.2.2 hc2) (mk_mk rfl rfl rfl rfl) (cwV 0 hts (gz_V mw_3_5 mw_3_7 ms_1_6 mw_1_1 mw_3_8) rfl rfl rfl hdV_X8_measure ⟨Nat.le_of_ble_eq_true rfl, Nat.le_of_ble_eq_true rfl⟩) hK hG (ga_0 g _) rfl rfl rfl hl.1 rfl (Nat.le_of_ble_eq_true rfl) dX8_clash_12 (fun H locs hG => ?_)
    refine W.eq (g2 := F0 m 15 ls []) rfl ?_
    refine lv_aload_n hx hb dX8_clash_15 rfl (lv_at hl 0 rfl) ?_
    refine gx_get (v := .ref (g.2.1 20)) (C := RX8) (T := TX8) (N := 13) hx hb hts mc_X8 hown hK hG (ga_0 g _) rfl 7 (by decide) hw0 rfl rfl dX8_clash_16 ?_
    refine gx_get (v := .int z1.2.2.2.1) (C := RX7) (T := TX7) (N := 7) hx hb hts mc_X7 hown hK hG (ga_20 g _) rfl 4 (by decide) hw1 rfl rfl dX8_clash_19 ?_
    refine lv_if_ne (tgt := 28) hx hb dX8_clash_22 (by decide) (fun c3 => ?_) (fun c3 => ?_)
    · have h := ite_f c3 h
      refine lv_aload_n hx hb dX8_clash_28 rfl (lv_at hl 0 rfl) ?_
      obtain ⟨z4, hc5, h⟩ := bnd_some h
      refine gx_cV (σ' := (mkS σ [(1541, z4.2.1), (1542, z4.2.2.1), (1540, z4.2.2.2.1), (1539, z4.2.2.2.2.1), (1286, z4.2.2.2.2.2.1), (1283, z4.2.2.2.2.2.2.1), (1285, z4.2.2.2.2.2.2.2.1), (1284, z4.2.2.2.2.2.2.2.2.1)] [] [(26, z4.2.2.2.2.2.2.2.2.2.1), (27, z4.2.2.2.2.2.2.2.2.2.2.1), (25, z4.2.2.2.2.2.2.2.2.2.2.2.1), (22, z4.2.2.2.2.2.2.2.2.2.2.2.2.1), (23, z4.2.2.2.2.2.2.2.2.2.2.2.2.2.1), (21, z4.2.2.2.2.2.2.2.2.2.2.2.2.2.2)] [])) (r := (some (.int z4.1))) (rest := []) (As := []) hS9 (c_LN_isLike l g (mkS σ [(1541, v_likeness_clashFrom), (1542, v_likeness_clashTo), (1540, v_likeness_holds), (1539, v_likeness_ready), (1286, z1.1), (1283, z1.2.1), (1285, z1.2.2.1), (1284, z1.2.2.2.1)] [] [(26, v_likeness_a), (27, v_likeness_b), (25, v_likeness_c), (22, z1.2.2.2.2.1), (23, z1.2.2.2.2.2.1), (21, z1.2.2.2.2.2.2)] []) z4.1 z4.2.1 z4.2.2.1 z4.2.2.2.1 z4.2.2.2.2.1 z4.2.2.2.2.2.1 z4.2.2.2.2.2.2.1 z4.2.2.2.2.2.2.2.1 z4.2.2.2.2.2.2.2.2.1 z4.2.2.2.2.2.2.2.2.2.1 z4.2.2.2.2.2.2.2.2.2.2.1 z4.2.2.2.2.2.2.2.2.2.2.2.1 z4.2.2.2.2.2.2.2.2.2.2.2.2.1 z4.2.2.2.2.2.2.2.2.2.2.2.2.2.1 z4.2.2.2.2.2.2.2.2.2.2.2.2.2.2 hc5) (mk_mk rfl rfl rfl rfl) (cwV 0 hts (gz_V mw_3_82 mw_3_84 ms_1_10 mw_1_1 mw_3_85) rfl rfl rfl hdV_X8_isLike ⟨Nat.le_of_ble_eq_true rfl, Nat.le_of_ble_eq_true rfl⟩) hK hG (ga_0 g _) rfl rfl rfl hl.1 rfl (Nat.le_of_ble_eq_true rfl) dX8_clash_29 (fun H locs hG => ?_)
      refine W.eq (g2 := F0 m 32 ls [.int z4.1]) rfl ?_
      refine lv_if_eq (tgt := 38) hx hb dX8_clash_32 (by decide) (fun c6 => ?_) (fun c6 => ?_)
      · have h := ite_t c6 h
        refine lv_iload_n hx hb dX8_clash_38 rfl (lv_at hl 1 rfl) ?_
        refine lv_if_ne (tgt := 52) hx hb dX8_clash_39 (by decide) (fun c7 => ?_) (fun c7 => ?_)
        · have h := ite_f c7 h
          refine lv_aload_n hx hb dX8_clash_52 rfl (lv_at hl 0 rfl) ?_
          refine gx_get (v := .ref (g.2.1 24)) (C := RX8) (T := TX8) (N := 13) hx hb hts mc_X8 hown hK hG (ga_0 g _) rfl 8 (by decide) hw2 rfl rfl dX8_clash_53 ?_
          refine gx_get (v := .int z4.2.2.1) (C := RX0) (T := TX0) (N := 7) hx hb hts mc_X0 hown hK hG (ga_24 g _) rfl 6 (by decide) hw3 rfl rfl dX8_clash_56 ?_
          exact n59 z4.2.2.1 z4.2.1 z4.2.2.1 z4.2.2.2.1 z4.2.2.2.2.1 z4.2.2.2.2.2.1 z4.2.2.2.2.2.2.1 z4.2.2.2.2.2.2.2.1 z4.2.2.2.2.2.2.2.2.1 z4.2.2.2.2.2.2.2.2.2.1 z4.2.2.2.2.2.2.2.2.2.2.1 z4.2.2.2.2.2.2.2.2.2.2.2.1 z4.2.2.2.2.2.2.2.2.2.2.2.2.1 z4.2.2.2.2.2.2.2.2.2.2.2.2.2.1 z4.2.2.2.2.2.2.2.2.2.2.2.2.2.2 _ _ _ (lv_sub hl [] rfl) hG h
        · have h := ite_t c7 h
          refine lv_aload_n hx hb dX8_clash_42 rfl (lv_at hl 0 rfl) ?_
          refine gx_get (v := .ref (g.2.1 24)) (C := RX8) (T := TX8) (N := 13) hx hb hts mc_X8 hown hK hG (ga_0 g _) rfl 8 (by decide) hw2 rfl rfl dX8_clash_43 ?_
          refine gx_get (v := .int z4.2.1) (C := RX0) (T := TX0) (N := 7) hx hb hts mc_X0 hown hK hG (ga_24 g _) rfl 5 (by decide) hw4 rfl rfl dX8_clash_46 ?_
          refine lv_goto (tgt := 59) hx hb dX8_clash_49 (by decide) ?_
          exact n59 z4.2.1 z4.2.1 z4.2.2.1 z4.2.2.2.1 z4.2.2.2.2.1 z4.2.2.2.2.2.1 z4.2.2.2.2.2.2.1 z4.2.2.2.2.2.2.2.1 z4.2.2.2.2.2.2.2.2.1 z4.2.2.2.2.2.2.2.2.2.1 z4.2.2.2.2.2.2.2.2.2.2.1 z4.2.2.2.2.2.2.2.2.2.2.2.1 z4.2.2.2.2.2.2.2.2.2.2.2.2.1 z4.2.2.2.2.2.2.2.2.2.2.2.2.2.1 z4.2.2.2.2.2.2.2.2.2.2.2.2.2.2 _ _ _ (lv_sub hl [] rfl) hG h
      · have h := ite_f c6 h
        refine lv_bipush (v := (-8 : Int32)) hx hb dX8_clash_35 (by decide) ?_
        cases h
        exact gx_iret hx hb hr hlocks hG dX8_clash_37
    · have h := ite_t c3 h
      refine lv_bipush (v := (-5 : Int32)) hx hb dX8_clash_25 (by decide) ?_
      cases h
      exact gx_iret hx hb hr hlocks hG dX8_clash_27
  refine lv_iload_n hx hb dX8_clash_0 rfl (lv_at hl 1 rfl) ?_
  refine lv_if_eq (tgt := 11) hx hb dX8_clash_1 (by decide) (fun c8 => ?_) (fun c8 => ?_)
  · have h := ite_t c8 h
    exact n11 x1 (σ.1 1541) (σ.1 1542) (σ.1 1540) (σ.1 1539) (σ.1 1286) (σ.1 1283) (σ.1 1285) (σ.1 1284) (σ.2.2.1 26) (σ.2.2.1 27) (σ.2.2.1 25) (σ.2.2.1 22) (σ.2.2.1 23) (σ.2.2.1 21) _ _ _ (lv_sub hl [0, 1] rfl) hG h
  · have h := ite_f c8 h
    refine lv_iload_n hx hb dX8_clash_4 rfl (lv_at hl 1 rfl) ?_
    refine lv_iconst (v := (1 : Int32)) hx hb dX8_clash_5 (by decide) ?_
    refine lv_icmp_eq (tgt := 11) hx hb dX8_clash_6 (by decide) (fun c9 => ?_) (fun c9 => ?_)
    · have h := ite_t c9 h
      exact n11 x1 (σ.1 1541) (σ.1 1542) (σ.1 1540) (σ.1 1539) (σ.1 1286) (σ.1 1283) (σ.1 1285) (σ.1 1284) (σ.2.2.1 26) (σ.2.2.1 27) (σ.2.2.1 25) (σ.2.2.1 22) (σ.2.2.1 23) (σ.2.2.1 21) _ _ _ (lv_sub hl [0, 1] rfl) hG h
    · have h := ite_f c9 h
      refine lv_iconst (v := (-1 : Int32)) hx hb dX8_clash_9 (by decide) ?_
      cases h
      exact gx_iret hx hb hr hlocks hG dX8_clash_10

set_option maxHeartbeats 4000000 in
set_option maxRecDepth 100000 in
theorem c_Td_hasRow (l : Launch) (g : GC) (σ : St) (x1 : Int32) (r : Int32) (h : Td_hasRow x1 (σ.1 1800) = some r) : Cn l g yX6_hasRow (Cond.code yX6_hasRow cX6_hasRow 2 (some .boolean) :: wG) 0 0 [.ref (g.2.1 28), .int x1] σ (some (.int r)) σ := by
  unfold Cn
  refine Met.ofW (cc := cX6_hasRow) (maxL := 2) (ret := (some .boolean)) (by decide) rfl ?_
  intro p e s m args below meth c s₁ B hml hv
  obtain ⟨hargs, hP0, hK⟩ := hv
  have hx := B.exec
  have hb := B.bytes
  have hr := B.returns
  have hts : ∀ w ∈ wG, w.before args s = true := fun w h => atoms_spec (ws := (Cond.code yX6_hasRow cX6_hasRow 2 (some .boolean) :: wG)) B.pre w (List.mem_cons_of_mem _ h)
  have hown : s.vm.findClass RX6 = some m.cls := findClass_of_methodNamed B.named
  have hlocks := B.notSynchronized
  have hw0 := hts _ mw_1_171
  have hf9 : entryFrame m args 2 = _ := (congrArg (fun a => entryFrame m a 2) hargs).trans (lg_entry_eq m [.ref (g.2.1 28), .int x1] 2)
  show Wg p l e 0 0 s m args below meth c g (some (.int r)) σ s.heap [] (entryFrame m args 2)
  rw [hf9]
  have hl := lv_entry ([.ref (g.2.1 28), .int x1]) (n := 2) (Nat.le_of_ble_eq_true rfl)
  generalize (lg_sl ([.ref (g.2.1 28), .int x1]) ++ List.replicate (2 - (lg_sl ([.ref (g.2.1 28), .int x1])).length) Slot.unset).toArray = ls at hl ⊢
  have hl : lv_has ls 2 [(0, .ref (g.2.1 28)), (1, .int x1)] := hl
  have hG : GW g s σ s.heap [] := ⟨hP0, va_S.rf⟩
  unfold Td_hasRow at h
  have n17 : ∀ (t0 : Int32) (H : Heap) (locs : List Loc) (ls : Array Slot), lv_has ls 2 [] → GW g s σ H locs → Td_hasRow_n17 t0 = some r → Wg p l e 0 0 s m args below meth c g (some (.int r)) σ H locs (F0 m 17 ls [.int t0]) := by
    intro t0 H locs ls hl hG h
    unfold Td_hasRow_n17 at h
    obtain ⟨hg1, h⟩ := gd_some h
    cases h
    exact gx_zret hx hb hr hlocks hg1 hG dX6_hasRow_17
  have n16 : ∀  (H : Heap) (locs : List Loc) (ls : Array Slot), lv_has ls 2 [] → GW g s σ H locs → Td_hasRow_n16 = some r → Wg p l e 0 0 s m args below meth c g (some (.int r)) σ H locs (F0 m 16 ls []) := by
    intro H locs ls hl hG h
    unfold Td_hasRow_n16 at h
    refine lv_iconst (v := (0 : Int32)) hx hb dX6_hasRow_16 (by decide) ?_
    exact n17 (0 : Int32) _ _ _ (lv_sub hl [] rfl) hG h
  refine lv_iload_n hx hb dX6_hasRow_0 rfl (lv_at hl 1 rfl) ?_
  refine lv_if_lt (tgt := 16) hx hb dX6_hasRow_1 (by decide) (fun c2 => ?_) (fun c2 => ?_)
  · have h := ite_t c2 h
    exact n16 _ _ _ (lv_sub hl [] rfl) hG h
  · have h := ite_f c2 h
    refine lv_iload_n hx hb dX6_hasRow_4 rfl (lv_at hl 1 rfl) ?_
    refine lv_aload_n hx hb dX6_hasRow_5 rfl (lv_at hl 0 rfl) ?_
    refine gx_get (v := .int (σ.1 1800)) (C := RX6) (T := TX6) (N := 13) hx hb hts mc_X6 hown hK hG (ga_28 g _) rfl 8 (by decide) hw0 rfl rfl dX6_hasRow_6 ?_
    refine lv_icmp_gt (tgt := 16) hx hb dX6_hasRow_9 (by decide) (fun c3 => ?_) (fun c3 => ?_)
    · have h := ite_t c3 h
      exact n16 _ _ _ (lv_sub hl [] rfl) hG h
    · have h := ite_f c3 h
      refine lv_iconst (v := (1 : Int32)) hx hb dX6_hasRow_12 (by decide) ?_
      refine lv_goto (tgt := 17) hx hb dX6_hasRow_13 (by decide) ?_
      exact n17 (1 : Int32) _ _ _ (lv_sub hl [] rfl) hG h

set_option maxHeartbeats 4000000 in
set_option maxRecDepth 100000 in
theorem c_Td_keepsLawsTo (l : Launch) (g : GC) (σ : St) (x1 : Int32) (r : Int32) (w_broken : Int32) (w_judged : Int32) (w_rootCount : Int32) (w_total : Int64) (w_roots : Nat → Int32) (w_times : Nat → Int32) (w_k : Nat → Int64) (w_scaled : Nat → Int64) (w_t : Nat → Int64) (h : Td_keepsLawsTo x1 (σ.1 1802) (σ.1 1804) (σ.1 1800) (σ.1 1801) (σ.2.1 1803) (σ.2.2.1 29) (σ.2.2.1 30) (σ.2.2.1 35) (σ.2.2.1 36) (σ.2.2.2 31) (σ.2.2.2 33) (σ.2.2.2 32) = some (r, w_broken, w_judged, w_rootCount, w_total, w_roots, w_times, w_k, w_scaled, w_t)) : Cn l g yX6_keepsLawsTo (Cond.code yX6_keepsLawsTo cX6_keepsLawsTo 3 (some .boolean) :: wG) 5 112 [.ref (g.2.1 28), .int x1] σ (some (.int r)) (mkS σ [(1802, w_broken), (1804, w_judged), (1801, w_rootCount)] [(1803, w_total)] [(35, w_roots), (36, w_times)] [(31, w_k), (33, w_scaled), (32, w_t)]) := by
  unfold Cn
  refine Met.ofW (cc := cX6_keepsLawsTo) (maxL := 3) (ret := (some .boolean)) (by decide) rfl ?_
  intro p e s m args below meth c s₁ B hml hv
  obtain ⟨hargs, hP0, hK⟩ := hv
  have hx := B.exec
  have hb := B.bytes
  have hr := B.returns
  have hts : ∀ w ∈ wG, w.before args s = true := fun w h => atoms_spec (ws := (Cond.code yX6_keepsLawsTo cX6_keepsLawsTo 3 (some .boolean) :: wG)) B.pre w (List.mem_cons_of_mem _ h)
  have hown : s.vm.findClass RX6 = some m.cls := findClass_of_methodNamed B.named
  have hlocks := B.notSynchronized
  have hS9 : CallFix p m c cX6_keepsLawsTo 3 s args wG RX6 := ⟨hx, hb, hml, hown, hts⟩
  have hf9 : entryFrame m args 3 = _ := (congrArg (fun a => entryFrame m a 3) hargs).trans (lg_entry_eq m [.ref (g.2.1 28), .int x1] 3)
  show Wg p l e 5 112 s m args below meth c g (some (.int r)) (mkS σ [(1802, w_broken), (1804, w_judged), (1801, w_rootCount)] [(1803, w_total)] [(35, w_roots), (36, w_times)] [(31, w_k), (33, w_scaled), (32, w_t)]) s.heap [] (entryFrame m args 3)
  rw [hf9]
  have hl := lv_entry ([.ref (g.2.1 28), .int x1]) (n := 3) (Nat.le_of_ble_eq_true rfl)
  generalize (lg_sl ([.ref (g.2.1 28), .int x1]) ++ List.replicate (3 - (lg_sl ([.ref (g.2.1 28), .int x1])).length) Slot.unset).toArray = ls at hl ⊢
  have hl : lv_has ls 3 [(0, .ref (g.2.1 28)), (1, .int x1)] := hl
  have hG : GW g s σ s.heap [] := ⟨hP0, va_S.rf⟩
  have hG : GW g s (mkS σ [(1802, (σ.1 1802)), (1804, (σ.1 1804)), (1801, (σ.1 1801))] [(1803, (σ.2.1 1803))] [(35, (σ.2.2.1 35)), (36, (σ.2.2.1 36))] [(31, (σ.2.2.2 31)), (33, (σ.2.2.2 33)), (32, (σ.2.2.2 32))]) s.heap [] := GW_self [1802, 1804, 1801] [1803] [35, 36] [31, 33, 32] hG
  unfold Td_keepsLawsTo at h
  have n19 : ∀ (t0 : Int32) (v_broken : Int32) (v_judged : Int32) (v_rootCount : Int32) (v_total : Int64) (v_roots : Nat → Int32) (v_times : Nat → Int32) (v_k : Nat → Int64) (v_scaled : Nat → Int64) (v_t : Nat → Int64) (H : Heap) (locs : List Loc) (ls : Array Slot), lv_has ls 3 [] → GW g s (mkS σ [(1802, v_broken), (1804, v_judged), (1801, v_rootCount)] [(1803, v_total)] [(35, v_roots), (36, v_times)] [(31, v_k), (33, v_scaled), (32, v_t)]) H locs → Td_keepsLawsTo_n19 t0 v_broken v_judged v_rootCount v_total v_roots v_times v_k v_scaled v_t = some (r, w_broken, w_judged, w_rootCount, w_total, w_roots, w_times, w_k, w_scaled, w_t) → Wg p l e 5 112 s m args below meth c g (some (.int r)) (mkS σ [(1802, w_broken), (1804, w_judged), (1801, w_rootCount)] [(1803, w_total)] [(35, w_roots), (36, w_times)] [(31, w_k), (33, w_scaled), (32, w_t)]) H locs (F0 m 19 ls [.int t0]) := by
    intro t0 v_broken v_judged v_rootCount v_total v_roots v_times v_k v_scaled v_t H locs ls hl hG h
    unfold Td_keepsLawsTo_n19 at h
    obtain ⟨hg1, h⟩ := gd_some h
    cases h
    exact gx_zret hx hb hr hlocks hg1 hG dX6_keepsLawsTo_19
  have n14 : ∀ (v_broken : Int32) (v_judged : Int32) (v_rootCount : Int32) (v_total : Int64) (v_roots : Nat → Int32) (v_times : Nat → Int32) (v_k : Nat → Int64) (v_scaled : Nat → Int64) (v_t : Nat → Int64) (H : Heap) (locs : List Loc) (ls : Array Slot), lv_has ls 3 [] → GW g s (mkS σ [(1802, v_broken), (1804, v_judged), (1801, v_rootCount)] [(1803, v_total)] [(35, v_roots), (36, v_times)] [(31, v_k), (33, v_scaled), (32, v_t)]) H locs → Td_keepsLawsTo_n14 v_broken v_judged v_rootCount v_total v_roots v_times v_k v_scaled v_t = some (r, w_broken, w_judged, w_rootCount, w_total, w_roots, w_times, w_k, w_scaled, w_t) → Wg p l e 5 112 s m args below meth c g (some (.int r)) (mkS σ [(1802, w_broken), (1804, w_judged), (1801, w_rootCount)] [(1803, w_total)] [(35, w_roots), (36, w_times)] [(31, w_k), (33, w_scaled), (32, w_t)]) H locs (F0 m 14 ls []) := by
    intro v_broken v_judged v_rootCount v_total v_roots v_times v_k v_scaled v_t H locs ls hl hG h
    unfold Td_keepsLawsTo_n14 at h
    refine lv_iconst (v := (1 : Int32)) hx hb dX6_keepsLawsTo_14 (by decide) ?_
    refine lv_goto (tgt := 19) hx hb dX6_keepsLawsTo_15 (by decide) ?_
    exact n19 (1 : Int32) v_broken v_judged v_rootCount v_total v_roots v_times v_k v_scaled v_t _ _ _ (lv_sub hl [] rfl) hG h
  refine lv_aload_n hx hb dX6_keepsLawsTo_0 rfl (lv_at hl 0 rfl) ?_
  obtain ⟨z2, hc3, h⟩ := bnd_some h
  refine gx_cV (σ' := (mkS σ [(1802, z2.2.1), (1804, z2.2.2.1), (1801, z2.2.2.2.1)] [(1803, z2.2.2.2.2.1)] [(35, z2.2.2.2.2.2.1), (36, z2.2.2.2.2.2.2.1)] [(31, z2.2.2.2.2.2.2.2.1), (33, z2.2.2.2.2.2.2.2.2.1), (32, z2.2.2.2.2.2.2.2.2.2)])) (r := (some (.int z2.1))) (rest := []) (As := []) hS9 (c_Td_firstBroken l g (mkS σ [(1802, (σ.1 1802)), (1804, (σ.1 1804)), (1801, (σ.1 1801))] [(1803, (σ.2.1 1803))] [(35, (σ.2.2.1 35)), (36, (σ.2.2.1 36))] [(31, (σ.2.2.2 31)), (33, (σ.2.2.2 33)), (32, (σ.2.2.2 32))]) z2.1 z2.2.1 z2.2.2.1 z2.2.2.2.1 z2.2.2.2.2.1 z2.2.2.2.2.2.1 z2.2.2.2.2.2.2.1 z2.2.2.2.2.2.2.2.1 z2.2.2.2.2.2.2.2.2.1 z2.2.2.2.2.2.2.2.2.2 hc3) (mk_mk rfl rfl rfl rfl) (cwV 0 hts (gz_V mw_3_217 mw_3_141 mw_3_142 mw_1_7 mw_3_143) rfl rfl rfl hdV_X6_firstBroken ⟨Nat.le_of_ble_eq_true rfl, Nat.le_of_ble_eq_true rfl⟩) hK hG (ga_28 g _) rfl rfl rfl hl.1 rfl (Nat.le_of_ble_eq_true rfl) dX6_keepsLawsTo_1 (fun H locs hG => ?_)
  refine W.eq (g2 := F0 m 4 ls [.int z2.1]) rfl ?_
  refine lv_istore_n (lv' := [(2, .int z2.1), (0, .ref (g.2.1 28)), (1, .int x1)]) hx hb dX6_keepsLawsTo_4 rfl hl (Nat.le_of_ble_eq_true rfl) rfl (fun ls hl => ?_)
  refine lv_iload_n hx hb dX6_keepsLawsTo_5 rfl (lv_at hl 0 rfl) ?_
  refine lv_if_eq (tgt := 14) hx hb dX6_keepsLawsTo_6 (by decide) (fun c4 => ?_) (fun c4 => ?_)
  · have h := ite_t c4 h
    exact n14 z2.2.1 z2.2.2.1 z2.2.2.2.1 z2.2.2.2.2.1 z2.2.2.2.2.2.1 z2.2.2.2.2.2.2.1 z2.2.2.2.2.2.2.2.1 z2.2.2.2.2.2.2.2.2.1 z2.2.2.2.2.2.2.2.2.2 _ _ _ (lv_sub hl [] rfl) hG h
  · have h := ite_f c4 h
    refine lv_iload_n hx hb dX6_keepsLawsTo_9 rfl (lv_at hl 0 rfl) ?_
    refine lv_iload_n hx hb dX6_keepsLawsTo_10 rfl (lv_at hl 2 rfl) ?_
    refine lv_icmp_le (tgt := 18) hx hb dX6_keepsLawsTo_11 (by decide) (fun c5 => ?_) (fun c5 => ?_)
    · have h := ite_t c5 h
      refine lv_iconst (v := (0 : Int32)) hx hb dX6_keepsLawsTo_18 (by decide) ?_
      exact n19 (0 : Int32) z2.2.1 z2.2.2.1 z2.2.2.2.1 z2.2.2.2.2.1 z2.2.2.2.2.2.1 z2.2.2.2.2.2.2.1 z2.2.2.2.2.2.2.2.1 z2.2.2.2.2.2.2.2.2.1 z2.2.2.2.2.2.2.2.2.2 _ _ _ (lv_sub hl [] rfl) hG h
    · have h := ite_f c5 h
      exact n14 z2.2.1 z2.2.2.1 z2.2.2.2.1 z2.2.2.2.2.1 z2.2.2.2.2.2.1 z2.2.2.2.2.2.2.1 z2.2.2.2.2.2.2.2.1 z2.2.2.2.2.2.2.2.2.1 z2.2.2.2.2.2.2.2.2.2 _ _ _ (lv_sub hl [] rfl) hG h

set_option maxHeartbeats 4000000 in
set_option maxRecDepth 100000 in
theorem c_LN_entry (l : Launch) (g : GC) (σ : St) (x1 : Int32) (x2 : Int32) (r : Int32) (w_told_broken : Int32) (w_told_judged : Int32) (w_told_rootCount : Int32) (w_told_total : Int64) (w_told_roots : Nat → Int32) (w_told_times : Nat → Int32) (w_told_k : Nat → Int64) (w_told_scaled : Nat → Int64) (w_told_t : Nat → Int64) (h : LN_entry x1 x2 (σ.1 1802) (σ.1 1804) (σ.1 1800) (σ.1 1801) (σ.2.1 1803) (σ.2.2.1 29) (σ.2.2.1 30) (σ.2.2.1 35) (σ.2.2.1 36) (σ.2.2.2 31) (σ.2.2.2 33) (σ.2.2.2 32) = some (r, w_told_broken, w_told_judged, w_told_rootCount, w_told_total, w_told_roots, w_told_times, w_told_k, w_told_scaled, w_told_t)) : Cn l g yX8_entry (Cond.code yX8_entry cX8_entry 3 (some .int) :: wG) 6 134 [.ref (g.2.1 0), .int x1, .int x2] σ (some (.int r)) (mkS σ [(1802, w_told_broken), (1804, w_told_judged), (1801, w_told_rootCount)] [(1803, w_told_total)] [(35, w_told_roots), (36, w_told_times)] [(31, w_told_k), (33, w_told_scaled), (32, w_told_t)]) := by
  unfold Cn
  refine Met.ofW (cc := cX8_entry) (maxL := 3) (ret := (some .int)) (by decide) rfl ?_
  intro p e s m args below meth c s₁ B hml hv
  obtain ⟨hargs, hP0, hK⟩ := hv
  have hx := B.exec
  have hb := B.bytes
  have hr := B.returns
  have hts : ∀ w ∈ wG, w.before args s = true := fun w h => atoms_spec (ws := (Cond.code yX8_entry cX8_entry 3 (some .int) :: wG)) B.pre w (List.mem_cons_of_mem _ h)
  have hown : s.vm.findClass RX8 = some m.cls := findClass_of_methodNamed B.named
  have hlocks := B.notSynchronized
  have hS9 : CallFix p m c cX8_entry 3 s args wG RX8 := ⟨hx, hb, hml, hown, hts⟩
  have hw0 := hts _ mw_2_46
  have hw1 := hts _ mw_1_160
  have hw2 := hts _ mw_1_158
  have hw3 := hts _ mw_1_162
  have hf9 : entryFrame m args 3 = _ := (congrArg (fun a => entryFrame m a 3) hargs).trans (lg_entry_eq m [.ref (g.2.1 0), .int x1, .int x2] 3)
  show Wg p l e 6 134 s m args below meth c g (some (.int r)) (mkS σ [(1802, w_told_broken), (1804, w_told_judged), (1801, w_told_rootCount)] [(1803, w_told_total)] [(35, w_told_roots), (36, w_told_times)] [(31, w_told_k), (33, w_told_scaled), (32, w_told_t)]) s.heap [] (entryFrame m args 3)
  rw [hf9]
  have hl := lv_entry ([.ref (g.2.1 0), .int x1, .int x2]) (n := 3) (Nat.le_of_ble_eq_true rfl)
  generalize (lg_sl ([.ref (g.2.1 0), .int x1, .int x2]) ++ List.replicate (3 - (lg_sl ([.ref (g.2.1 0), .int x1, .int x2])).length) Slot.unset).toArray = ls at hl ⊢
  have hl : lv_has ls 3 [(0, .ref (g.2.1 0)), (1, .int x1), (2, .int x2)] := hl
  have hG : GW g s σ s.heap [] := ⟨hP0, va_S.rf⟩
  have hG : GW g s (mkS σ [(1802, (σ.1 1802)), (1804, (σ.1 1804)), (1801, (σ.1 1801))] [(1803, (σ.2.1 1803))] [(35, (σ.2.2.1 35)), (36, (σ.2.2.1 36))] [(31, (σ.2.2.2 31)), (33, (σ.2.2.2 33)), (32, (σ.2.2.2 32))]) s.heap [] := GW_self [1802, 1804, 1801] [1803] [35, 36] [31, 33, 32] hG
  unfold LN_entry at h
  have n20 : ∀ (v_told_broken : Int32) (v_told_judged : Int32) (v_told_rootCount : Int32) (v_told_total : Int64) (v_told_roots : Nat → Int32) (v_told_times : Nat → Int32) (v_told_k : Nat → Int64) (v_told_scaled : Nat → Int64) (v_told_t : Nat → Int64) (H : Heap) (locs : List Loc) (ls : Array Slot), lv_has ls 3 [] → GW g s (mkS σ [(1802, v_told_broken), (1804, v_told_judged), (1801, v_told_rootCount)] [(1803, v_told_total)] [(35, v_told_roots), (36, v_told_times)] [(31, v_told_k), (33, v_told_scaled), (32, v_told_t)]) H locs → LN_entry_n20 v_told_broken v_told_judged v_told_rootCount v_told_total v_told_roots v_told_times v_told_k v_told_scaled v_told_t = some (r, w_told_broken, w_told_judged, w_told_rootCount, w_told_total, w_told_roots, w_told_times, w_told_k, w_told_scaled, w_told_t) → Wg p l e 6 134 s m args below meth c g (some (.int r)) (mkS σ [(1802, w_told_broken), (1804, w_told_judged), (1801, w_told_rootCount)] [(1803, w_told_total)] [(35, w_told_roots), (36, w_told_times)] [(31, w_told_k), (33, w_told_scaled), (32, w_told_t)]) H locs (F0 m 20 ls []) := by
    intro v_told_broken v_told_judged v_told_rootCount v_told_total v_told_roots v_told_times v_told_k v_told_scaled v_told_t H locs ls hl hG h
    unfold LN_entry_n20 at h
    refine lv_iconst (v := (-1 : Int32)) hx hb dX8_entry_20 (by decide) ?_
    cases h
    exact gx_iret hx hb hr hlocks hG dX8_entry_21
  refine lv_iload_n hx hb dX8_entry_0 rfl (lv_at hl 2 rfl) ?_
  refine lv_if_lt (tgt := 20) hx hb dX8_entry_1 (by decide) (fun c1 => ?_) (fun c1 => ?_)
  · have h := ite_t c1 h
    exact n20 (σ.1 1802) (σ.1 1804) (σ.1 1801) (σ.2.1 1803) (σ.2.2.1 35) (σ.2.2.1 36) (σ.2.2.2 31) (σ.2.2.2 33) (σ.2.2.2 32) _ _ _ (lv_sub hl [] rfl) hG h
  · have h := ite_f c1 h
    refine lv_iload_n hx hb dX8_entry_4 rfl (lv_at hl 2 rfl) ?_
    refine lv_iconst (v := (3 : Int32)) hx hb dX8_entry_5 (by decide) ?_
    refine lv_icmp_gt (tgt := 20) hx hb dX8_entry_6 (by decide) (fun c2 => ?_) (fun c2 => ?_)
    · have h := ite_t c2 h
      exact n20 (σ.1 1802) (σ.1 1804) (σ.1 1801) (σ.2.1 1803) (σ.2.2.1 35) (σ.2.2.1 36) (σ.2.2.2 31) (σ.2.2.2 33) (σ.2.2.2 32) _ _ _ (lv_sub hl [] rfl) hG h
    · have h := ite_f c2 h
      refine lv_aload_n hx hb dX8_entry_9 rfl (lv_at hl 0 rfl) ?_
      refine gx_get (v := .ref (g.2.1 28)) (C := RX8) (T := TX8) (N := 13) hx hb hts mc_X8 hown hK hG (ga_0 g _) rfl 9 (by decide) hw0 rfl rfl dX8_entry_10 ?_
      refine lv_iload_n hx hb dX8_entry_13 rfl (lv_at hl 1 rfl) ?_
      obtain ⟨z3, hc4, h⟩ := bnd_some h
      refine gx_cV (σ' := (mkS σ [(1802, (σ.1 1802)), (1804, (σ.1 1804)), (1801, (σ.1 1801))] [(1803, (σ.2.1 1803))] [(35, (σ.2.2.1 35)), (36, (σ.2.2.1 36))] [(31, (σ.2.2.2 31)), (33, (σ.2.2.2 33)), (32, (σ.2.2.2 32))])) (r := (some (.int z3))) (rest := []) (As := [.int x1]) hS9 (c_Td_hasRow l g (mkS σ [(1802, (σ.1 1802)), (1804, (σ.1 1804)), (1801, (σ.1 1801))] [(1803, (σ.2.1 1803))] [(35, (σ.2.2.1 35)), (36, (σ.2.2.1 36))] [(31, (σ.2.2.2 31)), (33, (σ.2.2.2 33)), (32, (σ.2.2.2 32))]) x1 z3 hc4) rfl (cwV 1 hts (gz_V mw_3_209 mw_3_210 mw_3_211 mw_1_7 mw_3_212) rfl rfl rfl hdV_X6_hasRow ⟨Nat.le_of_ble_eq_true rfl, Nat.le_of_ble_eq_true rfl⟩) hK hG (ga_28 g _) rfl rfl rfl hl.1 rfl (Nat.le_of_ble_eq_true rfl) dX8_entry_14 (fun H locs hG => ?_)
      refine W.eq (g2 := F0 m 17 ls [.int z3]) rfl ?_
      refine lv_if_ne (tgt := 22) hx hb dX8_entry_17 (by decide) (fun c5 => ?_) (fun c5 => ?_)
      · have h := ite_f c5 h
        refine lv_aload_n hx hb dX8_entry_22 rfl (lv_at hl 0 rfl) ?_
        refine gx_get (v := .ref (g.2.1 28)) (C := RX8) (T := TX8) (N := 13) hx hb hts mc_X8 hown hK hG (ga_0 g _) rfl 9 (by decide) hw0 rfl rfl dX8_entry_23 ?_
        refine lv_iconst (v := (4 : Int32)) hx hb dX8_entry_26 (by decide) ?_
        obtain ⟨z6, hc7, h⟩ := bnd_some h
        refine gx_cV (σ' := (mkS σ [(1802, z6.2.1), (1804, z6.2.2.1), (1801, z6.2.2.2.1)] [(1803, z6.2.2.2.2.1)] [(35, z6.2.2.2.2.2.1), (36, z6.2.2.2.2.2.2.1)] [(31, z6.2.2.2.2.2.2.2.1), (33, z6.2.2.2.2.2.2.2.2.1), (32, z6.2.2.2.2.2.2.2.2.2)])) (r := (some (.int z6.1))) (rest := []) (As := [.int (4 : Int32)]) hS9 (c_Td_keepsLawsTo l g (mkS σ [(1802, (σ.1 1802)), (1804, (σ.1 1804)), (1801, (σ.1 1801))] [(1803, (σ.2.1 1803))] [(35, (σ.2.2.1 35)), (36, (σ.2.2.1 36))] [(31, (σ.2.2.2 31)), (33, (σ.2.2.2 33)), (32, (σ.2.2.2 32))]) (4 : Int32) z6.1 z6.2.1 z6.2.2.1 z6.2.2.2.1 z6.2.2.2.2.1 z6.2.2.2.2.2.1 z6.2.2.2.2.2.2.1 z6.2.2.2.2.2.2.2.1 z6.2.2.2.2.2.2.2.2.1 z6.2.2.2.2.2.2.2.2.2 hc7) (mk_mk rfl rfl rfl rfl) (cwV 1 hts (gz_V mw_3_213 mw_3_214 mw_3_215 mw_1_7 mw_3_216) rfl rfl rfl hdV_X6_keepsLawsTo ⟨Nat.le_of_ble_eq_true rfl, Nat.le_of_ble_eq_true rfl⟩) hK hG (ga_28 g _) rfl rfl rfl hl.1 rfl (Nat.le_of_ble_eq_true rfl) dX8_entry_27 (fun H locs hG => ?_)
        refine W.eq (g2 := F0 m 30 ls [.int z6.1]) rfl ?_
        refine lv_if_ne (tgt := 36) hx hb dX8_entry_30 (by decide) (fun c8 => ?_) (fun c8 => ?_)
        · have h := ite_f c8 h
          refine lv_iload_n hx hb dX8_entry_36 rfl (lv_at hl 2 rfl) ?_
          by_cases c9 : x2 = (0 : Int32)
          · have h := ite_t c9 h
            refine lv_tableIn (off := 27) (tgt := 64) hx hb dX8_entry_37 (by rw [c9]; decide) (by rw [c9]; decide) (by rw [c9]; rfl) (by decide) ?_
            refine lv_aload_n hx hb dX8_entry_64 rfl (lv_at hl 0 rfl) ?_
            refine gx_get (v := .ref (g.2.1 28)) (C := RX8) (T := TX8) (N := 13) hx hb hts mc_X8 hown hK hG (ga_0 g _) rfl 9 (by decide) hw0 rfl rfl dX8_entry_65 ?_
            refine gx_get (v := .ref (g.2.1 30)) (C := RX6) (T := TX6) (N := 13) hx hb hts mc_X6 hown hK hG (ga_28 g _) rfl 1 (by decide) hw1 rfl rfl dX8_entry_68 ?_
            refine lv_iload_n hx hb dX8_entry_71 rfl (lv_at hl 1 rfl) ?_
            obtain ⟨hg10, h⟩ := gd_some h
            refine gx_iald (f := (σ.2.2.1 30)) hx hb hK hG (ga_30 g _) hg10 dX8_entry_72 ?_
            cases h
            exact gx_iret hx hb hr hlocks hG dX8_entry_73
          · have h := ite_f c9 h
            by_cases c11 : x2 = (1 : Int32)
            · have h := ite_t c11 h
              refine lv_tableIn (off := 37) (tgt := 74) hx hb dX8_entry_37 (by rw [c11]; decide) (by rw [c11]; decide) (by rw [c11]; rfl) (by decide) ?_
              refine lv_aload_n hx hb dX8_entry_74 rfl (lv_at hl 0 rfl) ?_
              refine gx_get (v := .ref (g.2.1 28)) (C := RX8) (T := TX8) (N := 13) hx hb hts mc_X8 hown hK hG (ga_0 g _) rfl 9 (by decide) hw0 rfl rfl dX8_entry_75 ?_
              refine lv_iload_n hx hb dX8_entry_78 rfl (lv_at hl 1 rfl) ?_
              obtain ⟨z12, hc13, h⟩ := bnd_some h
              refine gx_cV (σ' := (mkS σ [(1802, z6.2.1), (1804, z6.2.2.1), (1801, z6.2.2.2.1)] [(1803, z6.2.2.2.2.1)] [(35, z6.2.2.2.2.2.1), (36, z6.2.2.2.2.2.2.1)] [(31, z6.2.2.2.2.2.2.2.1), (33, z6.2.2.2.2.2.2.2.2.1), (32, z6.2.2.2.2.2.2.2.2.2)])) (r := (some (.int z12))) (rest := []) (As := [.int x1]) hS9 (c_Td_level l g (mkS σ [(1802, z6.2.1), (1804, z6.2.2.1), (1801, z6.2.2.2.1)] [(1803, z6.2.2.2.2.1)] [(35, z6.2.2.2.2.2.1), (36, z6.2.2.2.2.2.2.1)] [(31, z6.2.2.2.2.2.2.2.1), (33, z6.2.2.2.2.2.2.2.2.1), (32, z6.2.2.2.2.2.2.2.2.2)]) x1 z12 hc13) rfl (cwV 1 hts (gz_V mw_3_218 mw_3_157 mw_3_158 mw_1_7 mw_3_159) rfl rfl rfl hdV_X6_level ⟨Nat.le_of_ble_eq_true rfl, Nat.le_of_ble_eq_true rfl⟩) hK hG (ga_28 g _) rfl rfl rfl hl.1 rfl (Nat.le_of_ble_eq_true rfl) dX8_entry_79 (fun H locs hG => ?_)
              refine W.eq (g2 := F0 m 82 ls [.int z12]) rfl ?_
              cases h
              exact gx_iret hx hb hr hlocks hG dX8_entry_82
            · have h := ite_f c11 h
              by_cases c14 : x2 = (2 : Int32)
              · have h := ite_t c14 h
                refine lv_tableIn (off := 46) (tgt := 83) hx hb dX8_entry_37 (by rw [c14]; decide) (by rw [c14]; decide) (by rw [c14]; rfl) (by decide) ?_
                refine lv_aload_n hx hb dX8_entry_83 rfl (lv_at hl 0 rfl) ?_
                refine gx_get (v := .ref (g.2.1 28)) (C := RX8) (T := TX8) (N := 13) hx hb hts mc_X8 hown hK hG (ga_0 g _) rfl 9 (by decide) hw0 rfl rfl dX8_entry_84 ?_
                refine gx_get (v := .ref (g.2.1 29)) (C := RX6) (T := TX6) (N := 13) hx hb hts mc_X6 hown hK hG (ga_28 g _) rfl 0 (by decide) hw2 rfl rfl dX8_entry_87 ?_
                refine lv_iload_n hx hb dX8_entry_90 rfl (lv_at hl 1 rfl) ?_
                obtain ⟨hg15, h⟩ := gd_some h
                refine gx_iald (f := (σ.2.2.1 29)) hx hb hK hG (ga_29 g _) hg15 dX8_entry_91 ?_
                cases h
                exact gx_iret hx hb hr hlocks hG dX8_entry_92
              · have h := ite_f c14 h
                refine lv_tableOut (tgt := 93) hx hb dX8_entry_37 (sw_out (fun q h1 h2 => ?_)) (by decide) ?_
                · rcases (show q = 0 ∨ q = 1 ∨ q = 2 by omega) with rfl | rfl | rfl
                  · exact lv_neT c9 (by decide)
                  · exact lv_neT c11 (by decide)
                  · exact lv_neT c14 (by decide)
                refine lv_aload_n hx hb dX8_entry_93 rfl (lv_at hl 0 rfl) ?_
                refine gx_get (v := .ref (g.2.1 28)) (C := RX8) (T := TX8) (N := 13) hx hb hts mc_X8 hown hK hG (ga_0 g _) rfl 9 (by decide) hw0 rfl rfl dX8_entry_94 ?_
                refine gx_get (v := .ref (g.2.1 31)) (C := RX6) (T := TX6) (N := 13) hx hb hts mc_X6 hown hK hG (ga_28 g _) rfl 2 (by decide) hw3 rfl rfl dX8_entry_97 ?_
                refine lv_iload_n hx hb dX8_entry_100 rfl (lv_at hl 1 rfl) ?_
                obtain ⟨hg16, h⟩ := gd_some h
                refine gx_lald (f := z6.2.2.2.2.2.2.2.1) hx hb hK hG (ga_31 g _) hg16 dX8_entry_101 ?_
                refine lv_l2i hx hb dX8_entry_102 rfl ?_
                cases h
                exact gx_iret hx hb hr hlocks hG dX8_entry_103
        · have h := ite_t c8 h
          refine lv_bipush (v := (-6 : Int32)) hx hb dX8_entry_33 (by decide) ?_
          cases h
          exact gx_iret hx hb hr hlocks hG dX8_entry_35
      · have h := ite_t c5 h
        exact n20 (σ.1 1802) (σ.1 1804) (σ.1 1801) (σ.2.1 1803) (σ.2.2.1 35) (σ.2.2.1 36) (σ.2.2.2 31) (σ.2.2.2 33) (σ.2.2.2 32) _ _ _ (lv_sub hl [] rfl) hG h

set_option maxHeartbeats 4000000 in
set_option maxRecDepth 100000 in
theorem c_Wy_farGroup (l : Launch) (g : GC) (σ : St) (x1 : Int32) (r : Int32) (h : Wy_farGroup x1 (σ.1 1286) (σ.2.2.1 22) = some r) : Cn l g yX7_farGroup (Cond.code yX7_farGroup cX7_farGroup 2 (some .int) :: wG) 1 22 [.ref (g.2.1 20), .int x1] σ (some (.int r)) σ := by
  unfold Cn
  refine Met.ofW (cc := cX7_farGroup) (maxL := 2) (ret := (some .int)) (by decide) rfl ?_
  intro p e s m args below meth c s₁ B hml hv
  obtain ⟨hargs, hP0, hK⟩ := hv
  have hx := B.exec
  have hb := B.bytes
  have hr := B.returns
  have hts : ∀ w ∈ wG, w.before args s = true := fun w h => atoms_spec (ws := (Cond.code yX7_farGroup cX7_farGroup 2 (some .int) :: wG)) B.pre w (List.mem_cons_of_mem _ h)
  have hown : s.vm.findClass RX7 = some m.cls := findClass_of_methodNamed B.named
  have hlocks := B.notSynchronized
  have hS9 : CallFix p m c cX7_farGroup 2 s args wG RX7 := ⟨hx, hb, hml, hown, hts⟩
  have hw0 := hts _ mw_1_92
  have hf9 : entryFrame m args 2 = _ := (congrArg (fun a => entryFrame m a 2) hargs).trans (lg_entry_eq m [.ref (g.2.1 20), .int x1] 2)
  show Wg p l e 1 22 s m args below meth c g (some (.int r)) σ s.heap [] (entryFrame m args 2)
  rw [hf9]
  have hl := lv_entry ([.ref (g.2.1 20), .int x1]) (n := 2) (Nat.le_of_ble_eq_true rfl)
  generalize (lg_sl ([.ref (g.2.1 20), .int x1]) ++ List.replicate (2 - (lg_sl ([.ref (g.2.1 20), .int x1])).length) Slot.unset).toArray = ls at hl ⊢
  have hl : lv_has ls 2 [(0, .ref (g.2.1 20)), (1, .int x1)] := hl
  have hG : GW g s σ s.heap [] := ⟨hP0, va_S.rf⟩
  unfold Wy_farGroup at h
  refine lv_iconst (v := (1 : Int32)) hx hb dX7_farGroup_0 (by decide) ?_
  refine lv_iload_n hx hb dX7_farGroup_1 rfl (lv_at hl 1 rfl) ?_
  refine lv_ishl hx hb dX7_farGroup_2 ?_
  refine lv_aload_n hx hb dX7_farGroup_3 rfl (lv_at hl 0 rfl) ?_
  refine lv_iload_n hx hb dX7_farGroup_4 rfl (lv_at hl 1 rfl) ?_
  refine lv_aload_n hx hb dX7_farGroup_5 rfl (lv_at hl 0 rfl) ?_
  refine gx_get (v := .int (σ.1 1286)) (C := RX7) (T := TX7) (N := 7) hx hb hts mc_X7 hown hK hG (ga_20 g _) rfl 6 (by decide) hw0 rfl rfl dX7_farGroup_6 ?_
  obtain ⟨z1, hc2, h⟩ := bnd_some h
  refine gx_cV (σ' := σ) (r := (some (.int z1))) (rest := [.int ((1 : Int32) <<< (x1 &&& 31))]) (As := [.int x1, .int (σ.1 1286)]) hS9 (c_Wy_postsAt l g σ x1 (σ.1 1286) z1 hc2) rfl (cwV 2 hts (gz_V mw_3_61 mw_3_62 mw_3_63 mw_1_5 mw_3_64) rfl rfl rfl hdV_X7_postsAt ⟨Nat.le_of_ble_eq_true rfl, Nat.le_of_ble_eq_true rfl⟩) hK hG (ga_20 g _) rfl rfl rfl hl.1 rfl (Nat.le_of_ble_eq_true rfl) dX7_farGroup_9 (fun H locs hG => ?_)
  refine W.eq (g2 := F0 m 12 ls [.int z1, .int ((1 : Int32) <<< (x1 &&& 31))]) rfl ?_
  refine lv_ior hx hb dX7_farGroup_12 ?_
  cases h
  exact gx_iret hx hb hr hlocks hG dX7_farGroup_13

set_option maxHeartbeats 4000000 in
set_option maxRecDepth 100000 in
theorem c_Wy_isFolded (l : Launch) (g : GC) (σ : St) (r : Int32) (h : Wy_isFolded (σ.1 1286) (σ.1 1285) (σ.2.2.1 22) (σ.2.2.1 21) = some r) : Cn l g yX7_isFolded (Cond.code yX7_isFolded cX7_isFolded 3 (some .boolean) :: wG) 2 43 [.ref (g.2.1 20)] σ (some (.int r)) σ := by
  unfold Cn
  refine Met.ofW (cc := cX7_isFolded) (maxL := 3) (ret := (some .boolean)) (by decide) rfl ?_
  intro p e s m args below meth c s₁ B hml hv
  obtain ⟨hargs, hP0, hK⟩ := hv
  have hx := B.exec
  have hb := B.bytes
  have hr := B.returns
  have hts : ∀ w ∈ wG, w.before args s = true := fun w h => atoms_spec (ws := (Cond.code yX7_isFolded cX7_isFolded 3 (some .boolean) :: wG)) B.pre w (List.mem_cons_of_mem _ h)
  have hown : s.vm.findClass RX7 = some m.cls := findClass_of_methodNamed B.named
  have hlocks := B.notSynchronized
  have hS9 : CallFix p m c cX7_isFolded 3 s args wG RX7 := ⟨hx, hb, hml, hown, hts⟩
  have hw0 := hts _ mw_1_91
  have hw1 := hts _ mw_1_92
  have hf9 : entryFrame m args 3 = _ := (congrArg (fun a => entryFrame m a 3) hargs).trans (lg_entry_eq m [.ref (g.2.1 20)] 3)
  show Wg p l e 2 43 s m args below meth c g (some (.int r)) σ s.heap [] (entryFrame m args 3)
  rw [hf9]
  have hl := lv_entry ([.ref (g.2.1 20)]) (n := 3) (Nat.le_of_ble_eq_true rfl)
  generalize (lg_sl ([.ref (g.2.1 20)]) ++ List.replicate (3 - (lg_sl ([.ref (g.2.1 20)])).length) Slot.unset).toArray = ls at hl ⊢
  have hl : lv_has ls 3 [(0, .ref (g.2.1 20))] := hl
  have hG : GW g s σ s.heap [] := ⟨hP0, va_S.rf⟩
  unfold Wy_isFolded at h
  have n58 : ∀  (H : Heap) (locs : List Loc) (ls : Array Slot), lv_has ls 3 [] → GW g s σ H locs → Wy_isFolded_n58 = some r → Wg p l e 2 43 s m args below meth c g (some (.int r)) σ H locs (F0 m 58 ls []) := by
    intro H locs ls hl hG h
    unfold Wy_isFolded_n58 at h
    refine lv_iconst (v := (0 : Int32)) hx hb dX7_isFolded_58 (by decide) ?_
    cases h
    exact gx_zret hx hb hr hlocks (by decide) hG dX7_isFolded_59
  have n60 : ∀ (k24 : Int32 → Int32 → Option (Int32)) (hk24 : ∀ (x1 : Int32) (x2 : Int32) (H : Heap) (locs : List Loc) (ls : Array Slot), lv_has ls 3 [(0, .ref (g.2.1 20)), (1, .int x1), (2, .int x2)] → GW g s σ H locs → k24 x1 x2 = some r → Wg p l e 2 43 s m args below meth c g (some (.int r)) σ H locs (F0 m 24 ls [])) (x1 : Int32) (x2 : Int32) (H : Heap) (locs : List Loc) (ls : Array Slot), lv_has ls 3 [(0, .ref (g.2.1 20)), (1, .int x1), (2, .int x2)] → GW g s σ H locs → Wy_isFolded_n60 k24 x1 x2 = some r → Wg p l e 2 43 s m args below meth c g (some (.int r)) σ H locs (F0 m 60 ls []) := by
    intro k24 hk24 x1 x2 H locs ls hl hG h
    unfold Wy_isFolded_n60 at h
    refine lv_iinc (v := (x2 + (1 : Int32))) (lv' := [(2, .int (x2 + (1 : Int32))), (0, .ref (g.2.1 20)), (1, .int x1)]) hx hb dX7_isFolded_60 hl (k := 2) rfl (congrArg (fun z => x2 + z) (by decide)) (Nat.le_of_ble_eq_true rfl) rfl (fun ls hl => ?_)
    refine lv_goto (tgt := 24) hx hb dX7_isFolded_63 (by decide) ?_
    exact hk24 x1 (x2 + (1 : Int32)) _ _ _ (lv_sub hl [1, 2, 0] rfl) hG h
  have n66 : ∀ (k12 : Int32 → Option (Int32)) (hk12 : ∀ (x1 : Int32) (H : Heap) (locs : List Loc) (ls : Array Slot), lv_has ls 3 [(0, .ref (g.2.1 20)), (1, .int x1)] → GW g s σ H locs → k12 x1 = some r → Wg p l e 2 43 s m args below meth c g (some (.int r)) σ H locs (F0 m 12 ls [])) (x1 : Int32) (H : Heap) (locs : List Loc) (ls : Array Slot), lv_has ls 3 [(0, .ref (g.2.1 20)), (1, .int x1)] → GW g s σ H locs → Wy_isFolded_n66 k12 x1 = some r → Wg p l e 2 43 s m args below meth c g (some (.int r)) σ H locs (F0 m 66 ls []) := by
    intro k12 hk12 x1 H locs ls hl hG h
    unfold Wy_isFolded_n66 at h
    refine lv_iinc (v := (x1 + (1 : Int32))) (lv' := [(1, .int (x1 + (1 : Int32))), (0, .ref (g.2.1 20))]) hx hb dX7_isFolded_66 hl (k := 1) rfl (congrArg (fun z => x1 + z) (by decide)) (Nat.le_of_ble_eq_true rfl) rfl (fun ls hl => ?_)
    refine lv_goto (tgt := 12) hx hb dX7_isFolded_69 (by decide) ?_
    exact hk12 (x1 + (1 : Int32)) _ _ _ (lv_sub hl [1, 0] rfl) hG h
  have n24 : ∀ (k12 : Int32 → Option (Int32)) (hk12 : ∀ (x1 : Int32) (H : Heap) (locs : List Loc) (ls : Array Slot), lv_has ls 3 [(0, .ref (g.2.1 20)), (1, .int x1)] → GW g s σ H locs → k12 x1 = some r → Wg p l e 2 43 s m args below meth c g (some (.int r)) σ H locs (F0 m 12 ls [])) (k24 : Int32 → Int32 → Option (Int32)) (hk24 : ∀ (x1 : Int32) (x2 : Int32) (H : Heap) (locs : List Loc) (ls : Array Slot), lv_has ls 3 [(0, .ref (g.2.1 20)), (1, .int x1), (2, .int x2)] → GW g s σ H locs → k24 x1 x2 = some r → Wg p l e 2 43 s m args below meth c g (some (.int r)) σ H locs (F0 m 24 ls [])) (x1 : Int32) (x2 : Int32) (H : Heap) (locs : List Loc) (ls : Array Slot), lv_has ls 3 [(0, .ref (g.2.1 20)), (1, .int x1), (2, .int x2)] → GW g s σ H locs → Wy_isFolded_n24 k12 k24 (σ.1 1286) (σ.1 1285) (σ.2.2.1 22) (σ.2.2.1 21) x1 x2 = some r → Wg p l e 2 43 s m args below meth c g (some (.int r)) σ H locs (F0 m 24 ls []) := by
    intro k12 hk12 k24 hk24 x1 x2 H locs ls hl hG h
    unfold Wy_isFolded_n24 at h
    refine lv_iload_n hx hb dX7_isFolded_24 rfl (lv_at hl 2 rfl) ?_
    refine lv_aload_n hx hb dX7_isFolded_25 rfl (lv_at hl 0 rfl) ?_
    refine gx_get (v := .int (σ.1 1285)) (C := RX7) (T := TX7) (N := 7) hx hb hts mc_X7 hown hK hG (ga_20 g _) rfl 5 (by decide) hw0 rfl rfl dX7_isFolded_26 ?_
    refine lv_icmp_ge (tgt := 66) hx hb dX7_isFolded_29 (by decide) (fun c1 => ?_) (fun c1 => ?_)
    · have h := ite_t c1 h
      exact n66 k12 hk12 x1 _ _ _ (lv_sub hl [0, 1] rfl) hG h
    · have h := ite_f c1 h
      refine lv_aload_n hx hb dX7_isFolded_32 rfl (lv_at hl 0 rfl) ?_
      refine lv_iload_n hx hb dX7_isFolded_33 rfl (lv_at hl 1 rfl) ?_
      refine lv_iload_n hx hb dX7_isFolded_34 rfl (lv_at hl 2 rfl) ?_
      obtain ⟨z2, hc3, h⟩ := bnd_some h
      refine gx_cV (σ' := σ) (r := (some (.int z2))) (rest := []) (As := [.int x1, .int x2]) hS9 (c_Wy_between l g σ x1 x2 z2 hc3) rfl (cwV 2 hts (gz_V mw_3_60 mw_3_34 mw_3_35 mw_1_5 mw_3_36) rfl rfl rfl hdV_X7_between ⟨Nat.le_of_ble_eq_true rfl, Nat.le_of_ble_eq_true rfl⟩) hK hG (ga_20 g _) rfl rfl rfl hl.1 rfl (Nat.le_of_ble_eq_true rfl) dX7_isFolded_35 (fun H locs hG => ?_)
      refine W.eq (g2 := F0 m 38 ls [.int z2]) rfl ?_
      refine lv_aload_n hx hb dX7_isFolded_38 rfl (lv_at hl 0 rfl) ?_
      refine gx_get (v := .int (σ.1 1286)) (C := RX7) (T := TX7) (N := 7) hx hb hts mc_X7 hown hK hG (ga_20 g _) rfl 6 (by decide) hw1 rfl rfl dX7_isFolded_39 ?_
      refine lv_icmp_ne (tgt := 60) hx hb dX7_isFolded_42 (by decide) (fun c4 => ?_) (fun c4 => ?_)
      · have h := ite_f c4 h
        exact n60 k24 hk24 x1 x2 _ _ _ (lv_sub hl [0, 1, 2] rfl) hG h
      · have h := ite_t c4 h
        refine lv_aload_n hx hb dX7_isFolded_45 rfl (lv_at hl 0 rfl) ?_
        refine lv_iload_n hx hb dX7_isFolded_46 rfl (lv_at hl 1 rfl) ?_
        obtain ⟨z5, hc6, h⟩ := bnd_some h
        refine gx_cV (σ' := σ) (r := (some (.int z5))) (rest := []) (As := [.int x1]) hS9 (c_Wy_farGroup l g σ x1 z5 hc6) rfl (cwV 1 hts (gz_V mw_3_78 mw_3_79 mw_3_80 mw_1_5 mw_3_81) rfl rfl rfl hdV_X7_farGroup ⟨Nat.le_of_ble_eq_true rfl, Nat.le_of_ble_eq_true rfl⟩) hK hG (ga_20 g _) rfl rfl rfl hl.1 rfl (Nat.le_of_ble_eq_true rfl) dX7_isFolded_47 (fun H locs hG => ?_)
        refine W.eq (g2 := F0 m 50 ls [.int z5]) rfl ?_
        refine lv_aload_n hx hb dX7_isFolded_50 rfl (lv_at hl 0 rfl) ?_
        refine lv_iload_n hx hb dX7_isFolded_51 rfl (lv_at hl 2 rfl) ?_
        obtain ⟨z7, hc8, h⟩ := bnd_some h
        refine gx_cV (σ' := σ) (r := (some (.int z7))) (rest := [.int z5]) (As := [.int x2]) hS9 (c_Wy_farGroup l g σ x2 z7 hc8) rfl (cwV 1 hts (gz_V mw_3_78 mw_3_79 mw_3_80 mw_1_5 mw_3_81) rfl rfl rfl hdV_X7_farGroup ⟨Nat.le_of_ble_eq_true rfl, Nat.le_of_ble_eq_true rfl⟩) hK hG (ga_20 g _) rfl rfl rfl hl.1 rfl (Nat.le_of_ble_eq_true rfl) dX7_isFolded_52 (fun H locs hG => ?_)
        refine W.eq (g2 := F0 m 55 ls [.int z7, .int z5]) rfl ?_
        refine lv_icmp_eq (tgt := 60) hx hb dX7_isFolded_55 (by decide) (fun c9 => ?_) (fun c9 => ?_)
        · have h := ite_t c9 h
          exact n60 k24 hk24 x1 x2 _ _ _ (lv_sub hl [0, 1, 2] rfl) hG h
        · have h := ite_f c9 h
          exact n58 _ _ _ (lv_sub hl [] rfl) hG h
  have l24 : ∀ (k12 : Int32 → Option (Int32)) (hk12 : ∀ (x1 : Int32) (H : Heap) (locs : List Loc) (ls : Array Slot), lv_has ls 3 [(0, .ref (g.2.1 20)), (1, .int x1)] → GW g s σ H locs → k12 x1 = some r → Wg p l e 2 43 s m args below meth c g (some (.int r)) σ H locs (F0 m 12 ls [])) (F : Nat) (x1 : Int32) (x2 : Int32) (H : Heap) (locs : List Loc) (ls : Array Slot), lv_has ls 3 [(0, .ref (g.2.1 20)), (1, .int x1), (2, .int x2)] → GW g s σ H locs → Wy_isFolded_l24 k12 (σ.1 1286) (σ.1 1285) (σ.2.2.1 22) (σ.2.2.1 21) F x1 x2 = some r → Wg p l e 2 43 s m args below meth c g (some (.int r)) σ H locs (F0 m 24 ls []) := by
    intro k12 hk12 F
    induction F with
    | zero => intro x1 x2 H locs ls hl hG h; exact no_some h
    | succ F ih => intro x1 x2 H locs ls hl hG h; exact n24 k12 hk12 (fun x1 x2 => Wy_isFolded_l24 k12 (σ.1 1286) (σ.1 1285) (σ.2.2.1 22) (σ.2.2.1 21) F x1 x2) ih x1 x2 H locs ls hl hG h
  have n72 : ∀  (H : Heap) (locs : List Loc) (ls : Array Slot), lv_has ls 3 [] → GW g s σ H locs → Wy_isFolded_n72 = some r → Wg p l e 2 43 s m args below meth c g (some (.int r)) σ H locs (F0 m 72 ls []) := by
    intro H locs ls hl hG h
    unfold Wy_isFolded_n72 at h
    refine lv_iconst (v := (1 : Int32)) hx hb dX7_isFolded_72 (by decide) ?_
    cases h
    exact gx_zret hx hb hr hlocks (by decide) hG dX7_isFolded_73
  have n12 : ∀ (k12 : Int32 → Option (Int32)) (hk12 : ∀ (x1 : Int32) (H : Heap) (locs : List Loc) (ls : Array Slot), lv_has ls 3 [(0, .ref (g.2.1 20)), (1, .int x1)] → GW g s σ H locs → k12 x1 = some r → Wg p l e 2 43 s m args below meth c g (some (.int r)) σ H locs (F0 m 12 ls [])) (x1 : Int32) (H : Heap) (locs : List Loc) (ls : Array Slot), lv_has ls 3 [(0, .ref (g.2.1 20)), (1, .int x1)] → GW g s σ H locs → Wy_isFolded_n12 k12 (σ.1 1286) (σ.1 1285) (σ.2.2.1 22) (σ.2.2.1 21) x1 = some r → Wg p l e 2 43 s m args below meth c g (some (.int r)) σ H locs (F0 m 12 ls []) := by
    intro k12 hk12 x1 H locs ls hl hG h
    unfold Wy_isFolded_n12 at h
    refine lv_iload_n hx hb dX7_isFolded_12 rfl (lv_at hl 1 rfl) ?_
    refine lv_aload_n hx hb dX7_isFolded_13 rfl (lv_at hl 0 rfl) ?_
    refine gx_get (v := .int (σ.1 1285)) (C := RX7) (T := TX7) (N := 7) hx hb hts mc_X7 hown hK hG (ga_20 g _) rfl 5 (by decide) hw0 rfl rfl dX7_isFolded_14 ?_
    refine lv_icmp_ge (tgt := 72) hx hb dX7_isFolded_17 (by decide) (fun c10 => ?_) (fun c10 => ?_)
    · have h := ite_t c10 h
      exact n72 _ _ _ (lv_sub hl [] rfl) hG h
    · have h := ite_f c10 h
      refine lv_iload_n hx hb dX7_isFolded_20 rfl (lv_at hl 1 rfl) ?_
      refine lv_iconst (v := (1 : Int32)) hx hb dX7_isFolded_21 (by decide) ?_
      refine lv_iadd hx hb dX7_isFolded_22 ?_
      refine lv_istore_n (lv' := [(2, .int (x1 + (1 : Int32))), (0, .ref (g.2.1 20)), (1, .int x1)]) hx hb dX7_isFolded_23 rfl hl (Nat.le_of_ble_eq_true rfl) rfl (fun ls hl => ?_)
      exact l24 k12 hk12 FUEL x1 (x1 + (1 : Int32)) _ _ _ (lv_sub hl [1, 2, 0] rfl) hG h
  have l12 : ∀  (F : Nat) (x1 : Int32) (H : Heap) (locs : List Loc) (ls : Array Slot), lv_has ls 3 [(0, .ref (g.2.1 20)), (1, .int x1)] → GW g s σ H locs → Wy_isFolded_l12 (σ.1 1286) (σ.1 1285) (σ.2.2.1 22) (σ.2.2.1 21) F x1 = some r → Wg p l e 2 43 s m args below meth c g (some (.int r)) σ H locs (F0 m 12 ls []) := by
    intro F
    induction F with
    | zero => intro x1 H locs ls hl hG h; exact no_some h
    | succ F ih => intro x1 H locs ls hl hG h; exact n12 (fun x1 => Wy_isFolded_l12 (σ.1 1286) (σ.1 1285) (σ.2.2.1 22) (σ.2.2.1 21) F x1) ih x1 H locs ls hl hG h
  refine lv_aload_n hx hb dX7_isFolded_0 rfl (lv_at hl 0 rfl) ?_
  refine gx_get (v := .int (σ.1 1286)) (C := RX7) (T := TX7) (N := 7) hx hb hts mc_X7 hown hK hG (ga_20 g _) rfl 6 (by decide) hw1 rfl rfl dX7_isFolded_1 ?_
  refine lv_iconst (v := (1 : Int32)) hx hb dX7_isFolded_4 (by decide) ?_
  refine lv_icmp_ge (tgt := 10) hx hb dX7_isFolded_5 (by decide) (fun c11 => ?_) (fun c11 => ?_)
  · have h := ite_t c11 h
    refine lv_iconst (v := (0 : Int32)) hx hb dX7_isFolded_10 (by decide) ?_
    refine lv_istore_n (lv' := [(1, .int (0 : Int32)), (0, .ref (g.2.1 20))]) hx hb dX7_isFolded_11 rfl hl (Nat.le_of_ble_eq_true rfl) rfl (fun ls hl => ?_)
    exact l12 FUEL (0 : Int32) _ _ _ (lv_sub hl [1, 0] rfl) hG h
  · have h := ite_f c11 h
    refine lv_iconst (v := (0 : Int32)) hx hb dX7_isFolded_8 (by decide) ?_
    cases h
    exact gx_zret hx hb hr hlocks (by decide) hG dX7_isFolded_9

set_option maxHeartbeats 4000000 in
set_option maxRecDepth 100000 in
theorem c_LN_lowestBit (l : Launch) (g : GC) (σ : St) (x0 : Int32) (r : Int32) (h : LN_lowestBit x0 = some r) : Cn l g yX8_lowestBit (Cond.code yX8_lowestBit cX8_lowestBit 1 (some .int) :: wG) 1 20 [.int x0] σ (some (.int r)) σ := by
  unfold Cn
  refine Met.ofW (cc := cX8_lowestBit) (maxL := 1) (ret := (some .int)) (by decide) rfl ?_
  intro p e s m args below meth c s₁ B hml hv
  obtain ⟨hargs, hP0, hK⟩ := hv
  have hx := B.exec
  have hb := B.bytes
  have hr := B.returns
  have hts : ∀ w ∈ wG, w.before args s = true := fun w h => atoms_spec (ws := (Cond.code yX8_lowestBit cX8_lowestBit 1 (some .int) :: wG)) B.pre w (List.mem_cons_of_mem _ h)
  have hown : s.vm.findClass RX8 = some m.cls := findClass_of_methodNamed B.named
  have hlocks := B.notSynchronized
  have hS9 : CallFix p m c cX8_lowestBit 1 s args wG RX8 := ⟨hx, hb, hml, hown, hts⟩
  have hf9 : entryFrame m args 1 = _ := (congrArg (fun a => entryFrame m a 1) hargs).trans (lg_entry_eq m [.int x0] 1)
  show Wg p l e 1 20 s m args below meth c g (some (.int r)) σ s.heap [] (entryFrame m args 1)
  rw [hf9]
  have hl := lv_entry ([.int x0]) (n := 1) (Nat.le_of_ble_eq_true rfl)
  generalize (lg_sl ([.int x0]) ++ List.replicate (1 - (lg_sl ([.int x0])).length) Slot.unset).toArray = ls at hl ⊢
  have hl : lv_has ls 1 [(0, .int x0)] := hl
  have hG : GW g s σ s.heap [] := ⟨hP0, va_S.rf⟩
  unfold LN_lowestBit at h
  refine lv_iload_n hx hb dX8_lowestBit_0 rfl (lv_at hl 0 rfl) ?_
  refine lv_iload_n hx hb dX8_lowestBit_1 rfl (lv_at hl 0 rfl) ?_
  refine lv_ineg hx hb dX8_lowestBit_2 ?_
  refine lv_iand hx hb dX8_lowestBit_3 ?_
  refine lv_iconst (v := (1 : Int32)) hx hb dX8_lowestBit_4 (by decide) ?_
  refine lv_isub hx hb dX8_lowestBit_5 ?_
  obtain ⟨z1, hc2, h⟩ := bnd_some h
  refine gx_cS (σ' := σ) (r := (some (.int z1))) (rest := []) (As := [.int ((x0 &&& (-x0)) - (1 : Int32))]) hS9 (c_JI_bitCount l g σ ((x0 &&& (-x0)) - (1 : Int32)) z1 hc2) rfl (va_cwS 1 hts (gz_S mw_3_48 mw_2_169 mw_1_12 mw_2_170) rfl rfl rfl hdS_J6_bitCount_0f7a4 ⟨Nat.le_of_ble_eq_true rfl, Nat.le_of_ble_eq_true rfl⟩) hK hG rfl hl.1 rfl (Nat.le_of_ble_eq_true rfl) dX8_lowestBit_6 (fun H locs hG => ?_)
  refine W.eq (g2 := F0 m 9 ls [.int z1]) rfl ?_
  cases h
  exact gx_iret hx hb hr hlocks hG dX8_lowestBit_9

set_option maxHeartbeats 4000000 in
set_option maxRecDepth 100000 in
theorem c_LN_fold (l : Launch) (g : GC) (σ : St) (r : Int32) (w_likeness_ready : Int32) (w_made_size : Int32) (w_now_size : Int32) (w_pairs_ready : Int32) (w_search_reach : Int32) (w_ways_far : Int32) (w_ways_ready : Int32) (w_ways_size : Int32) (w_ways_whole : Int32) (w_list : Nat → Int32) (w_made_near : Nat → Int32) (w_now_near : Nat → Int32) (w_ways_layers : Nat → Int32) (w_ways_reached : Nat → Int32) (w_ways_steps : Nat → Int32) (h : LN_fold (σ.1 1539) (σ.1 769) (σ.1 641) (σ.1 2632) (σ.1 2372) (σ.1 1286) (σ.1 1283) (σ.1 1285) (σ.1 1284) (σ.2.2.1 16) (σ.2.2.1 13) (σ.2.2.1 11) (σ.2.2.1 22) (σ.2.2.1 23) (σ.2.2.1 21) = some (r, w_likeness_ready, w_made_size, w_now_size, w_pairs_ready, w_search_reach, w_ways_far, w_ways_ready, w_ways_size, w_ways_whole, w_list, w_made_near, w_now_near, w_ways_layers, w_ways_reached, w_ways_steps)) : Cn l g yX8_fold (Cond.code yX8_fold cX8_fold 5 (some .int) :: wG) 5 114 [.ref (g.2.1 0)] σ (some (.int r)) (mkS σ [(1539, w_likeness_ready), (769, w_made_size), (641, w_now_size), (2632, w_pairs_ready), (2372, w_search_reach), (1286, w_ways_far), (1283, w_ways_ready), (1285, w_ways_size), (1284, w_ways_whole)] [] [(16, w_list), (13, w_made_near), (11, w_now_near), (22, w_ways_layers), (23, w_ways_reached), (21, w_ways_steps)] []) := by
  unfold Cn
  refine Met.ofW (cc := cX8_fold) (maxL := 5) (ret := (some .int)) (by decide) rfl ?_
  intro p e s m args below meth c s₁ B hml hv
  obtain ⟨hargs, hP0, hK⟩ := hv
  have hx := B.exec
  have hb := B.bytes
  have hr := B.returns
  have hts : ∀ w ∈ wG, w.before args s = true := fun w h => atoms_spec (ws := (Cond.code yX8_fold cX8_fold 5 (some .int) :: wG)) B.pre w (List.mem_cons_of_mem _ h)
  have hown : s.vm.findClass RX8 = some m.cls := findClass_of_methodNamed B.named
  have hlocks := B.notSynchronized
  have hS9 : CallFix p m c cX8_fold 5 s args wG RX8 := ⟨hx, hb, hml, hown, hts⟩
  have hw0 := hts _ mw_2_41
  have hw1 := hts _ mw_2_39
  have hw2 := hts _ mw_2_38
  have hw3 := hts _ mw_1_61
  have hw4 := hts _ mw_2_44
  have hf9 : entryFrame m args 5 = _ := (congrArg (fun a => entryFrame m a 5) hargs).trans (lg_entry_eq m [.ref (g.2.1 0)] 5)
  show Wg p l e 5 114 s m args below meth c g (some (.int r)) (mkS σ [(1539, w_likeness_ready), (769, w_made_size), (641, w_now_size), (2632, w_pairs_ready), (2372, w_search_reach), (1286, w_ways_far), (1283, w_ways_ready), (1285, w_ways_size), (1284, w_ways_whole)] [] [(16, w_list), (13, w_made_near), (11, w_now_near), (22, w_ways_layers), (23, w_ways_reached), (21, w_ways_steps)] []) s.heap [] (entryFrame m args 5)
  rw [hf9]
  have hl := lv_entry ([.ref (g.2.1 0)]) (n := 5) (Nat.le_of_ble_eq_true rfl)
  generalize (lg_sl ([.ref (g.2.1 0)]) ++ List.replicate (5 - (lg_sl ([.ref (g.2.1 0)])).length) Slot.unset).toArray = ls at hl ⊢
  have hl : lv_has ls 5 [(0, .ref (g.2.1 0))] := hl
  have hG : GW g s σ s.heap [] := ⟨hP0, va_S.rf⟩
  have hG : GW g s (mkS σ [(1539, (σ.1 1539)), (769, (σ.1 769)), (641, (σ.1 641)), (2632, (σ.1 2632)), (2372, (σ.1 2372)), (1286, (σ.1 1286)), (1283, (σ.1 1283)), (1285, (σ.1 1285)), (1284, (σ.1 1284))] [] [(16, (σ.2.2.1 16)), (13, (σ.2.2.1 13)), (11, (σ.2.2.1 11)), (22, (σ.2.2.1 22)), (23, (σ.2.2.1 23)), (21, (σ.2.2.1 21))] []) s.heap [] := GW_self [1539, 769, 641, 2632, 2372, 1286, 1283, 1285, 1284] [] [16, 13, 11, 22, 23, 21] [] hG
  unfold LN_fold at h
  have n59 : ∀ (k21 : Int32 → Int32 → Int32 → Int32 → Int32 → Int32 → Int32 → Int32 → Int32 → Int32 → Int32 → (Nat → Int32) → (Nat → Int32) → (Nat → Int32) → (Nat → Int32) → (Nat → Int32) → (Nat → Int32) → Option (Int32 × Int32 × Int32 × Int32 × Int32 × Int32 × Int32 × Int32 × Int32 × Int32 × (Nat → Int32) × (Nat → Int32) × (Nat → Int32) × (Nat → Int32) × (Nat → Int32) × (Nat → Int32))) (hk21 : ∀ (x1 : Int32) (x2 : Int32) (v_likeness_ready : Int32) (v_made_size : Int32) (v_now_size : Int32) (v_pairs_ready : Int32) (v_search_reach : Int32) (v_ways_far : Int32) (v_ways_ready : Int32) (v_ways_size : Int32) (v_ways_whole : Int32) (v_list : Nat → Int32) (v_made_near : Nat → Int32) (v_now_near : Nat → Int32) (v_ways_layers : Nat → Int32) (v_ways_reached : Nat → Int32) (v_ways_steps : Nat → Int32) (H : Heap) (locs : List Loc) (ls : Array Slot), lv_has ls 5 [(0, .ref (g.2.1 0)), (1, .int x1), (2, .int x2)] → GW g s (mkS σ [(1539, v_likeness_ready), (769, v_made_size), (641, v_now_size), (2632, v_pairs_ready), (2372, v_search_reach), (1286, v_ways_far), (1283, v_ways_ready), (1285, v_ways_size), (1284, v_ways_whole)] [] [(16, v_list), (13, v_made_near), (11, v_now_near), (22, v_ways_layers), (23, v_ways_reached), (21, v_ways_steps)] []) H locs → k21 x1 x2 v_likeness_ready v_made_size v_now_size v_pairs_ready v_search_reach v_ways_far v_ways_ready v_ways_size v_ways_whole v_list v_made_near v_now_near v_ways_layers v_ways_reached v_ways_steps = some (r, w_likeness_ready, w_made_size, w_now_size, w_pairs_ready, w_search_reach, w_ways_far, w_ways_ready, w_ways_size, w_ways_whole, w_list, w_made_near, w_now_near, w_ways_layers, w_ways_reached, w_ways_steps) → Wg p l e 5 114 s m args below meth c g (some (.int r)) (mkS σ [(1539, w_likeness_ready), (769, w_made_size), (641, w_now_size), (2632, w_pairs_ready), (2372, w_search_reach), (1286, w_ways_far), (1283, w_ways_ready), (1285, w_ways_size), (1284, w_ways_whole)] [] [(16, w_list), (13, w_made_near), (11, w_now_near), (22, w_ways_layers), (23, w_ways_reached), (21, w_ways_steps)] []) H locs (F0 m 21 ls [])) (x1 : Int32) (x2 : Int32) (v_likeness_ready : Int32) (v_made_size : Int32) (v_now_size : Int32) (v_pairs_ready : Int32) (v_search_reach : Int32) (v_ways_far : Int32) (v_ways_ready : Int32) (v_ways_size : Int32) (v_ways_whole : Int32) (v_list : Nat → Int32) (v_made_near : Nat → Int32) (v_now_near : Nat → Int32) (v_ways_layers : Nat → Int32) (v_ways_reached : Nat → Int32) (v_ways_steps : Nat → Int32) (H : Heap) (locs : List Loc) (ls : Array Slot), lv_has ls 5 [(0, .ref (g.2.1 0)), (1, .int x1), (2, .int x2)] → GW g s (mkS σ [(1539, v_likeness_ready), (769, v_made_size), (641, v_now_size), (2632, v_pairs_ready), (2372, v_search_reach), (1286, v_ways_far), (1283, v_ways_ready), (1285, v_ways_size), (1284, v_ways_whole)] [] [(16, v_list), (13, v_made_near), (11, v_now_near), (22, v_ways_layers), (23, v_ways_reached), (21, v_ways_steps)] []) H locs → LN_fold_n59 k21 x1 x2 v_likeness_ready v_made_size v_now_size v_pairs_ready v_search_reach v_ways_far v_ways_ready v_ways_size v_ways_whole v_list v_made_near v_now_near v_ways_layers v_ways_reached v_ways_steps = some (r, w_likeness_ready, w_made_size, w_now_size, w_pairs_ready, w_search_reach, w_ways_far, w_ways_ready, w_ways_size, w_ways_whole, w_list, w_made_near, w_now_near, w_ways_layers, w_ways_reached, w_ways_steps) → Wg p l e 5 114 s m args below meth c g (some (.int r)) (mkS σ [(1539, w_likeness_ready), (769, w_made_size), (641, w_now_size), (2632, w_pairs_ready), (2372, w_search_reach), (1286, w_ways_far), (1283, w_ways_ready), (1285, w_ways_size), (1284, w_ways_whole)] [] [(16, w_list), (13, w_made_near), (11, w_now_near), (22, w_ways_layers), (23, w_ways_reached), (21, w_ways_steps)] []) H locs (F0 m 59 ls []) := by
    intro k21 hk21 x1 x2 v_likeness_ready v_made_size v_now_size v_pairs_ready v_search_reach v_ways_far v_ways_ready v_ways_size v_ways_whole v_list v_made_near v_now_near v_ways_layers v_ways_reached v_ways_steps H locs ls hl hG h
    unfold LN_fold_n59 at h
    refine lv_iinc (v := (x2 + (1 : Int32))) (lv' := [(2, .int (x2 + (1 : Int32))), (0, .ref (g.2.1 0)), (1, .int x1)]) hx hb dX8_fold_59 hl (k := 2) rfl (congrArg (fun z => x2 + z) (by decide)) (Nat.le_of_ble_eq_true rfl) rfl (fun ls hl => ?_)
    refine lv_goto (tgt := 21) hx hb dX8_fold_62 (by decide) ?_
    exact hk21 x1 (x2 + (1 : Int32)) v_likeness_ready v_made_size v_now_size v_pairs_ready v_search_reach v_ways_far v_ways_ready v_ways_size v_ways_whole v_list v_made_near v_now_near v_ways_layers v_ways_reached v_ways_steps _ _ _ (lv_sub hl [1, 2, 0] rfl) hG h
  have n127 : ∀ (k99 : Int32 → Int32 → Int32 → Int32 → Int32 → Int32 → Int32 → Int32 → Int32 → Int32 → Int32 → Int32 → Int32 → (Nat → Int32) → (Nat → Int32) → (Nat → Int32) → (Nat → Int32) → (Nat → Int32) → (Nat → Int32) → Option (Int32 × Int32 × Int32 × Int32 × Int32 × Int32 × Int32 × Int32 × Int32 × Int32 × (Nat → Int32) × (Nat → Int32) × (Nat → Int32) × (Nat → Int32) × (Nat → Int32) × (Nat → Int32))) (hk99 : ∀ (x1 : Int32) (x2 : Int32) (x3 : Int32) (x4 : Int32) (v_likeness_ready : Int32) (v_made_size : Int32) (v_now_size : Int32) (v_pairs_ready : Int32) (v_search_reach : Int32) (v_ways_far : Int32) (v_ways_ready : Int32) (v_ways_size : Int32) (v_ways_whole : Int32) (v_list : Nat → Int32) (v_made_near : Nat → Int32) (v_now_near : Nat → Int32) (v_ways_layers : Nat → Int32) (v_ways_reached : Nat → Int32) (v_ways_steps : Nat → Int32) (H : Heap) (locs : List Loc) (ls : Array Slot), lv_has ls 5 [(0, .ref (g.2.1 0)), (1, .int x1), (2, .int x2), (3, .int x3), (4, .int x4)] → GW g s (mkS σ [(1539, v_likeness_ready), (769, v_made_size), (641, v_now_size), (2632, v_pairs_ready), (2372, v_search_reach), (1286, v_ways_far), (1283, v_ways_ready), (1285, v_ways_size), (1284, v_ways_whole)] [] [(16, v_list), (13, v_made_near), (11, v_now_near), (22, v_ways_layers), (23, v_ways_reached), (21, v_ways_steps)] []) H locs → k99 x1 x2 x3 x4 v_likeness_ready v_made_size v_now_size v_pairs_ready v_search_reach v_ways_far v_ways_ready v_ways_size v_ways_whole v_list v_made_near v_now_near v_ways_layers v_ways_reached v_ways_steps = some (r, w_likeness_ready, w_made_size, w_now_size, w_pairs_ready, w_search_reach, w_ways_far, w_ways_ready, w_ways_size, w_ways_whole, w_list, w_made_near, w_now_near, w_ways_layers, w_ways_reached, w_ways_steps) → Wg p l e 5 114 s m args below meth c g (some (.int r)) (mkS σ [(1539, w_likeness_ready), (769, w_made_size), (641, w_now_size), (2632, w_pairs_ready), (2372, w_search_reach), (1286, w_ways_far), (1283, w_ways_ready), (1285, w_ways_size), (1284, w_ways_whole)] [] [(16, w_list), (13, w_made_near), (11, w_now_near), (22, w_ways_layers), (23, w_ways_reached), (21, w_ways_steps)] []) H locs (F0 m 99 ls [])) (x1 : Int32) (x2 : Int32) (x3 : Int32) (x4 : Int32) (v_likeness_ready : Int32) (v_made_size : Int32) (v_now_size : Int32) (v_pairs_ready : Int32) (v_search_reach : Int32) (v_ways_far : Int32) (v_ways_ready : Int32) (v_ways_size : Int32) (v_ways_whole : Int32) (v_list : Nat → Int32) (v_made_near : Nat → Int32) (v_now_near : Nat → Int32) (v_ways_layers : Nat → Int32) (v_ways_reached : Nat → Int32) (v_ways_steps : Nat → Int32) (H : Heap) (locs : List Loc) (ls : Array Slot), lv_has ls 5 [(0, .ref (g.2.1 0)), (1, .int x1), (2, .int x2), (3, .int x3), (4, .int x4)] → GW g s (mkS σ [(1539, v_likeness_ready), (769, v_made_size), (641, v_now_size), (2632, v_pairs_ready), (2372, v_search_reach), (1286, v_ways_far), (1283, v_ways_ready), (1285, v_ways_size), (1284, v_ways_whole)] [] [(16, v_list), (13, v_made_near), (11, v_now_near), (22, v_ways_layers), (23, v_ways_reached), (21, v_ways_steps)] []) H locs → LN_fold_n127 k99 x1 x2 x3 x4 v_likeness_ready v_made_size v_now_size v_pairs_ready v_search_reach v_ways_far v_ways_ready v_ways_size v_ways_whole v_list v_made_near v_now_near v_ways_layers v_ways_reached v_ways_steps = some (r, w_likeness_ready, w_made_size, w_now_size, w_pairs_ready, w_search_reach, w_ways_far, w_ways_ready, w_ways_size, w_ways_whole, w_list, w_made_near, w_now_near, w_ways_layers, w_ways_reached, w_ways_steps) → Wg p l e 5 114 s m args below meth c g (some (.int r)) (mkS σ [(1539, w_likeness_ready), (769, w_made_size), (641, w_now_size), (2632, w_pairs_ready), (2372, w_search_reach), (1286, w_ways_far), (1283, w_ways_ready), (1285, w_ways_size), (1284, w_ways_whole)] [] [(16, w_list), (13, w_made_near), (11, w_now_near), (22, w_ways_layers), (23, w_ways_reached), (21, w_ways_steps)] []) H locs (F0 m 127 ls []) := by
    intro k99 hk99 x1 x2 x3 x4 v_likeness_ready v_made_size v_now_size v_pairs_ready v_search_reach v_ways_far v_ways_ready v_ways_size v_ways_whole v_list v_made_near v_now_near v_ways_layers v_ways_reached v_ways_steps H locs ls hl hG h
    unfold LN_fold_n127 at h
    refine lv_iinc (v := (x4 + (1 : Int32))) (lv' := [(4, .int (x4 + (1 : Int32))), (0, .ref (g.2.1 0)), (1, .int x1), (2, .int x2), (3, .int x3)]) hx hb dX8_fold_127 hl (k := 4) rfl (congrArg (fun z => x4 + z) (by decide)) (Nat.le_of_ble_eq_true rfl) rfl (fun ls hl => ?_)
    refine lv_goto (tgt := 99) hx hb dX8_fold_130 (by decide) ?_
    exact hk99 x1 x2 x3 (x4 + (1 : Int32)) v_likeness_ready v_made_size v_now_size v_pairs_ready v_search_reach v_ways_far v_ways_ready v_ways_size v_ways_whole v_list v_made_near v_now_near v_ways_layers v_ways_reached v_ways_steps _ _ _ (lv_sub hl [1, 2, 3, 4, 0] rfl) hG h
  have n133 : ∀ (k75 : Int32 → Int32 → Int32 → Int32 → Int32 → Int32 → Int32 → Int32 → Int32 → Int32 → Int32 → (Nat → Int32) → (Nat → Int32) → (Nat → Int32) → (Nat → Int32) → (Nat → Int32) → (Nat → Int32) → Option (Int32 × Int32 × Int32 × Int32 × Int32 × Int32 × Int32 × Int32 × Int32 × Int32 × (Nat → Int32) × (Nat → Int32) × (Nat → Int32) × (Nat → Int32) × (Nat → Int32) × (Nat → Int32))) (hk75 : ∀ (x1 : Int32) (x2 : Int32) (v_likeness_ready : Int32) (v_made_size : Int32) (v_now_size : Int32) (v_pairs_ready : Int32) (v_search_reach : Int32) (v_ways_far : Int32) (v_ways_ready : Int32) (v_ways_size : Int32) (v_ways_whole : Int32) (v_list : Nat → Int32) (v_made_near : Nat → Int32) (v_now_near : Nat → Int32) (v_ways_layers : Nat → Int32) (v_ways_reached : Nat → Int32) (v_ways_steps : Nat → Int32) (H : Heap) (locs : List Loc) (ls : Array Slot), lv_has ls 5 [(0, .ref (g.2.1 0)), (1, .int x1), (2, .int x2)] → GW g s (mkS σ [(1539, v_likeness_ready), (769, v_made_size), (641, v_now_size), (2632, v_pairs_ready), (2372, v_search_reach), (1286, v_ways_far), (1283, v_ways_ready), (1285, v_ways_size), (1284, v_ways_whole)] [] [(16, v_list), (13, v_made_near), (11, v_now_near), (22, v_ways_layers), (23, v_ways_reached), (21, v_ways_steps)] []) H locs → k75 x1 x2 v_likeness_ready v_made_size v_now_size v_pairs_ready v_search_reach v_ways_far v_ways_ready v_ways_size v_ways_whole v_list v_made_near v_now_near v_ways_layers v_ways_reached v_ways_steps = some (r, w_likeness_ready, w_made_size, w_now_size, w_pairs_ready, w_search_reach, w_ways_far, w_ways_ready, w_ways_size, w_ways_whole, w_list, w_made_near, w_now_near, w_ways_layers, w_ways_reached, w_ways_steps) → Wg p l e 5 114 s m args below meth c g (some (.int r)) (mkS σ [(1539, w_likeness_ready), (769, w_made_size), (641, w_now_size), (2632, w_pairs_ready), (2372, w_search_reach), (1286, w_ways_far), (1283, w_ways_ready), (1285, w_ways_size), (1284, w_ways_whole)] [] [(16, w_list), (13, w_made_near), (11, w_now_near), (22, w_ways_layers), (23, w_ways_reached), (21, w_ways_steps)] []) H locs (F0 m 75 ls [])) (x1 : Int32) (x2 : Int32) (v_likeness_ready : Int32) (v_made_size : Int32) (v_now_size : Int32) (v_pairs_ready : Int32) (v_search_reach : Int32) (v_ways_far : Int32) (v_ways_ready : Int32) (v_ways_size : Int32) (v_ways_whole : Int32) (v_list : Nat → Int32) (v_made_near : Nat → Int32) (v_now_near : Nat → Int32) (v_ways_layers : Nat → Int32) (v_ways_reached : Nat → Int32) (v_ways_steps : Nat → Int32) (H : Heap) (locs : List Loc) (ls : Array Slot), lv_has ls 5 [(0, .ref (g.2.1 0)), (1, .int x1), (2, .int x2)] → GW g s (mkS σ [(1539, v_likeness_ready), (769, v_made_size), (641, v_now_size), (2632, v_pairs_ready), (2372, v_search_reach), (1286, v_ways_far), (1283, v_ways_ready), (1285, v_ways_size), (1284, v_ways_whole)] [] [(16, v_list), (13, v_made_near), (11, v_now_near), (22, v_ways_layers), (23, v_ways_reached), (21, v_ways_steps)] []) H locs → LN_fold_n133 k75 x1 x2 v_likeness_ready v_made_size v_now_size v_pairs_ready v_search_reach v_ways_far v_ways_ready v_ways_size v_ways_whole v_list v_made_near v_now_near v_ways_layers v_ways_reached v_ways_steps = some (r, w_likeness_ready, w_made_size, w_now_size, w_pairs_ready, w_search_reach, w_ways_far, w_ways_ready, w_ways_size, w_ways_whole, w_list, w_made_near, w_now_near, w_ways_layers, w_ways_reached, w_ways_steps) → Wg p l e 5 114 s m args below meth c g (some (.int r)) (mkS σ [(1539, w_likeness_ready), (769, w_made_size), (641, w_now_size), (2632, w_pairs_ready), (2372, w_search_reach), (1286, w_ways_far), (1283, w_ways_ready), (1285, w_ways_size), (1284, w_ways_whole)] [] [(16, w_list), (13, w_made_near), (11, w_now_near), (22, w_ways_layers), (23, w_ways_reached), (21, w_ways_steps)] []) H locs (F0 m 133 ls []) := by
    intro k75 hk75 x1 x2 v_likeness_ready v_made_size v_now_size v_pairs_ready v_search_reach v_ways_far v_ways_ready v_ways_size v_ways_whole v_list v_made_near v_now_near v_ways_layers v_ways_reached v_ways_steps H locs ls hl hG h
    unfold LN_fold_n133 at h
    refine lv_iinc (v := (x2 + (1 : Int32))) (lv' := [(2, .int (x2 + (1 : Int32))), (0, .ref (g.2.1 0)), (1, .int x1)]) hx hb dX8_fold_133 hl (k := 2) rfl (congrArg (fun z => x2 + z) (by decide)) (Nat.le_of_ble_eq_true rfl) rfl (fun ls hl => ?_)
    refine lv_goto (tgt := 75) hx hb dX8_fold_136 (by decide) ?_
    exact hk75 x1 (x2 + (1 : Int32)) v_likeness_ready v_made_size v_now_size v_pairs_ready v_search_reach v_ways_far v_ways_ready v_ways_size v_ways_whole v_list v_made_near v_now_near v_ways_layers v_ways_reached v_ways_steps _ _ _ (lv_sub hl [1, 2, 0] rfl) hG h
  have n99 : ∀ (k75 : Int32 → Int32 → Int32 → Int32 → Int32 → Int32 → Int32 → Int32 → Int32 → Int32 → Int32 → (Nat → Int32) → (Nat → Int32) → (Nat → Int32) → (Nat → Int32) → (Nat → Int32) → (Nat → Int32) → Option (Int32 × Int32 × Int32 × Int32 × Int32 × Int32 × Int32 × Int32 × Int32 × Int32 × (Nat → Int32) × (Nat → Int32) × (Nat → Int32) × (Nat → Int32) × (Nat → Int32) × (Nat → Int32))) (hk75 : ∀ (x1 : Int32) (x2 : Int32) (v_likeness_ready : Int32) (v_made_size : Int32) (v_now_size : Int32) (v_pairs_ready : Int32) (v_search_reach : Int32) (v_ways_far : Int32) (v_ways_ready : Int32) (v_ways_size : Int32) (v_ways_whole : Int32) (v_list : Nat → Int32) (v_made_near : Nat → Int32) (v_now_near : Nat → Int32) (v_ways_layers : Nat → Int32) (v_ways_reached : Nat → Int32) (v_ways_steps : Nat → Int32) (H : Heap) (locs : List Loc) (ls : Array Slot), lv_has ls 5 [(0, .ref (g.2.1 0)), (1, .int x1), (2, .int x2)] → GW g s (mkS σ [(1539, v_likeness_ready), (769, v_made_size), (641, v_now_size), (2632, v_pairs_ready), (2372, v_search_reach), (1286, v_ways_far), (1283, v_ways_ready), (1285, v_ways_size), (1284, v_ways_whole)] [] [(16, v_list), (13, v_made_near), (11, v_now_near), (22, v_ways_layers), (23, v_ways_reached), (21, v_ways_steps)] []) H locs → k75 x1 x2 v_likeness_ready v_made_size v_now_size v_pairs_ready v_search_reach v_ways_far v_ways_ready v_ways_size v_ways_whole v_list v_made_near v_now_near v_ways_layers v_ways_reached v_ways_steps = some (r, w_likeness_ready, w_made_size, w_now_size, w_pairs_ready, w_search_reach, w_ways_far, w_ways_ready, w_ways_size, w_ways_whole, w_list, w_made_near, w_now_near, w_ways_layers, w_ways_reached, w_ways_steps) → Wg p l e 5 114 s m args below meth c g (some (.int r)) (mkS σ [(1539, w_likeness_ready), (769, w_made_size), (641, w_now_size), (2632, w_pairs_ready), (2372, w_search_reach), (1286, w_ways_far), (1283, w_ways_ready), (1285, w_ways_size), (1284, w_ways_whole)] [] [(16, w_list), (13, w_made_near), (11, w_now_near), (22, w_ways_layers), (23, w_ways_reached), (21, w_ways_steps)] []) H locs (F0 m 75 ls [])) (k99 : Int32 → Int32 → Int32 → Int32 → Int32 → Int32 → Int32 → Int32 → Int32 → Int32 → Int32 → Int32 → Int32 → (Nat → Int32) → (Nat → Int32) → (Nat → Int32) → (Nat → Int32) → (Nat → Int32) → (Nat → Int32) → Option (Int32 × Int32 × Int32 × Int32 × Int32 × Int32 × Int32 × Int32 × Int32 × Int32 × (Nat → Int32) × (Nat → Int32) × (Nat → Int32) × (Nat → Int32) × (Nat → Int32) × (Nat → Int32))) (hk99 : ∀ (x1 : Int32) (x2 : Int32) (x3 : Int32) (x4 : Int32) (v_likeness_ready : Int32) (v_made_size : Int32) (v_now_size : Int32) (v_pairs_ready : Int32) (v_search_reach : Int32) (v_ways_far : Int32) (v_ways_ready : Int32) (v_ways_size : Int32) (v_ways_whole : Int32) (v_list : Nat → Int32) (v_made_near : Nat → Int32) (v_now_near : Nat → Int32) (v_ways_layers : Nat → Int32) (v_ways_reached : Nat → Int32) (v_ways_steps : Nat → Int32) (H : Heap) (locs : List Loc) (ls : Array Slot), lv_has ls 5 [(0, .ref (g.2.1 0)), (1, .int x1), (2, .int x2), (3, .int x3), (4, .int x4)] → GW g s (mkS σ [(1539, v_likeness_ready), (769, v_made_size), (641, v_now_size), (2632, v_pairs_ready), (2372, v_search_reach), (1286, v_ways_far), (1283, v_ways_ready), (1285, v_ways_size), (1284, v_ways_whole)] [] [(16, v_list), (13, v_made_near), (11, v_now_near), (22, v_ways_layers), (23, v_ways_reached), (21, v_ways_steps)] []) H locs → k99 x1 x2 x3 x4 v_likeness_ready v_made_size v_now_size v_pairs_ready v_search_reach v_ways_far v_ways_ready v_ways_size v_ways_whole v_list v_made_near v_now_near v_ways_layers v_ways_reached v_ways_steps = some (r, w_likeness_ready, w_made_size, w_now_size, w_pairs_ready, w_search_reach, w_ways_far, w_ways_ready, w_ways_size, w_ways_whole, w_list, w_made_near, w_now_near, w_ways_layers, w_ways_reached, w_ways_steps) → Wg p l e 5 114 s m args below meth c g (some (.int r)) (mkS σ [(1539, w_likeness_ready), (769, w_made_size), (641, w_now_size), (2632, w_pairs_ready), (2372, w_search_reach), (1286, w_ways_far), (1283, w_ways_ready), (1285, w_ways_size), (1284, w_ways_whole)] [] [(16, w_list), (13, w_made_near), (11, w_now_near), (22, w_ways_layers), (23, w_ways_reached), (21, w_ways_steps)] []) H locs (F0 m 99 ls [])) (x1 : Int32) (x2 : Int32) (x3 : Int32) (x4 : Int32) (v_likeness_ready : Int32) (v_made_size : Int32) (v_now_size : Int32) (v_pairs_ready : Int32) (v_search_reach : Int32) (v_ways_far : Int32) (v_ways_ready : Int32) (v_ways_size : Int32) (v_ways_whole : Int32) (v_list : Nat → Int32) (v_made_near : Nat → Int32) (v_now_near : Nat → Int32) (v_ways_layers : Nat → Int32) (v_ways_reached : Nat → Int32) (v_ways_steps : Nat → Int32) (H : Heap) (locs : List Loc) (ls : Array Slot), lv_has ls 5 [(0, .ref (g.2.1 0)), (1, .int x1), (2, .int x2), (3, .int x3), (4, .int x4)] → GW g s (mkS σ [(1539, v_likeness_ready), (769, v_made_size), (641, v_now_size), (2632, v_pairs_ready), (2372, v_search_reach), (1286, v_ways_far), (1283, v_ways_ready), (1285, v_ways_size), (1284, v_ways_whole)] [] [(16, v_list), (13, v_made_near), (11, v_now_near), (22, v_ways_layers), (23, v_ways_reached), (21, v_ways_steps)] []) H locs → LN_fold_n99 k75 k99 x1 x2 x3 x4 v_likeness_ready v_made_size v_now_size v_pairs_ready v_search_reach v_ways_far v_ways_ready v_ways_size v_ways_whole v_list v_made_near v_now_near v_ways_layers v_ways_reached v_ways_steps = some (r, w_likeness_ready, w_made_size, w_now_size, w_pairs_ready, w_search_reach, w_ways_far, w_ways_ready, w_ways_size, w_ways_whole, w_list, w_made_near, w_now_near, w_ways_layers, w_ways_reached, w_ways_steps) → Wg p l e 5 114 s m args below meth c g (some (.int r)) (mkS σ [(1539, w_likeness_ready), (769, w_made_size), (641, w_now_size), (2632, w_pairs_ready), (2372, w_search_reach), (1286, w_ways_far), (1283, w_ways_ready), (1285, w_ways_size), (1284, w_ways_whole)] [] [(16, w_list), (13, w_made_near), (11, w_now_near), (22, w_ways_layers), (23, w_ways_reached), (21, w_ways_steps)] []) H locs (F0 m 99 ls []) := by
    intro k75 hk75 k99 hk99 x1 x2 x3 x4 v_likeness_ready v_made_size v_now_size v_pairs_ready v_search_reach v_ways_far v_ways_ready v_ways_size v_ways_whole v_list v_made_near v_now_near v_ways_layers v_ways_reached v_ways_steps H locs ls hl hG h
    unfold LN_fold_n99 at h
    refine lv_iload hx hb dX8_fold_99 (lv_at hl 4 rfl) ?_
    refine lv_iload_n hx hb dX8_fold_101 rfl (lv_at hl 1 rfl) ?_
    refine lv_icmp_ge (tgt := 133) hx hb dX8_fold_102 (by decide) (fun c1 => ?_) (fun c1 => ?_)
    · have h := ite_t c1 h
      exact n133 k75 hk75 x1 x2 v_likeness_ready v_made_size v_now_size v_pairs_ready v_search_reach v_ways_far v_ways_ready v_ways_size v_ways_whole v_list v_made_near v_now_near v_ways_layers v_ways_reached v_ways_steps _ _ _ (lv_sub hl [0, 1, 2] rfl) hG h
    · have h := ite_f c1 h
      refine lv_iload_n hx hb dX8_fold_105 rfl (lv_at hl 3 rfl) ?_
      refine lv_aload_n hx hb dX8_fold_106 rfl (lv_at hl 0 rfl) ?_
      refine gx_get (v := .ref (g.2.1 16)) (C := RX8) (T := TX8) (N := 13) hx hb hts mc_X8 hown hK hG (ga_0 g _) rfl 4 (by decide) hw0 rfl rfl dX8_fold_107 ?_
      refine lv_iload hx hb dX8_fold_110 (lv_at hl 4 rfl) ?_
      obtain ⟨hg2, h⟩ := gd_some h
      refine gx_iald (f := v_list) hx hb hK hG (ga_16 g _) hg2 dX8_fold_112 ?_
      refine lv_iand hx hb dX8_fold_113 ?_
      refine lv_if_eq (tgt := 127) hx hb dX8_fold_114 (by decide) (fun c3 => ?_) (fun c3 => ?_)
      · have h := ite_t c3 h
        exact n127 k99 hk99 x1 x2 x3 x4 v_likeness_ready v_made_size v_now_size v_pairs_ready v_search_reach v_ways_far v_ways_ready v_ways_size v_ways_whole v_list v_made_near v_now_near v_ways_layers v_ways_reached v_ways_steps _ _ _ (lv_sub hl [0, 1, 2, 3, 4] rfl) hG h
      · have h := ite_f c3 h
        refine lv_aload_n hx hb dX8_fold_117 rfl (lv_at hl 0 rfl) ?_
        refine gx_get (v := .ref (g.2.1 12)) (C := RX8) (T := TX8) (N := 13) hx hb hts mc_X8 hown hK hG (ga_0 g _) rfl 2 (by decide) hw1 rfl rfl dX8_fold_118 ?_
        refine lv_iload_n hx hb dX8_fold_121 rfl (lv_at hl 2 rfl) ?_
        refine lv_iload hx hb dX8_fold_122 (lv_at hl 4 rfl) ?_
        obtain ⟨z4, hc5, h⟩ := bnd_some h
        refine gx_cV (σ' := (mkS σ [(1539, v_likeness_ready), (769, v_made_size), (641, v_now_size), (2632, v_pairs_ready), (2372, v_search_reach), (1286, v_ways_far), (1283, v_ways_ready), (1285, v_ways_size), (1284, v_ways_whole)] [] [(16, v_list), (13, z4), (11, v_now_near), (22, v_ways_layers), (23, v_ways_reached), (21, v_ways_steps)] [])) (r := none) (rest := []) (As := [.int x2, .int x4]) hS9 (c_Net_join_12 l g (mkS σ [(1539, v_likeness_ready), (769, v_made_size), (641, v_now_size), (2632, v_pairs_ready), (2372, v_search_reach), (1286, v_ways_far), (1283, v_ways_ready), (1285, v_ways_size), (1284, v_ways_whole)] [] [(16, v_list), (13, v_made_near), (11, v_now_near), (22, v_ways_layers), (23, v_ways_reached), (21, v_ways_steps)] []) x2 x4 z4 hc5) (mk_mk rfl rfl rfl rfl) (cwV 2 hts (gz_V mw_2_137 mw_2_138 mw_2_139 mw_1_3 mw_2_140) rfl rfl rfl hdV_X2_join ⟨Nat.le_of_ble_eq_true rfl, Nat.le_of_ble_eq_true rfl⟩) hK hG (ga_12 g _) rfl rfl rfl hl.1 rfl (Nat.le_of_ble_eq_true rfl) dX8_fold_124 (fun H locs hG => ?_)
        refine W.eq (g2 := F0 m 127 ls []) rfl ?_
        exact n127 k99 hk99 x1 x2 x3 x4 v_likeness_ready v_made_size v_now_size v_pairs_ready v_search_reach v_ways_far v_ways_ready v_ways_size v_ways_whole v_list z4 v_now_near v_ways_layers v_ways_reached v_ways_steps _ _ _ (lv_sub hl [0, 1, 2, 3, 4] rfl) hG h
  have l99 : ∀ (k75 : Int32 → Int32 → Int32 → Int32 → Int32 → Int32 → Int32 → Int32 → Int32 → Int32 → Int32 → (Nat → Int32) → (Nat → Int32) → (Nat → Int32) → (Nat → Int32) → (Nat → Int32) → (Nat → Int32) → Option (Int32 × Int32 × Int32 × Int32 × Int32 × Int32 × Int32 × Int32 × Int32 × Int32 × (Nat → Int32) × (Nat → Int32) × (Nat → Int32) × (Nat → Int32) × (Nat → Int32) × (Nat → Int32))) (hk75 : ∀ (x1 : Int32) (x2 : Int32) (v_likeness_ready : Int32) (v_made_size : Int32) (v_now_size : Int32) (v_pairs_ready : Int32) (v_search_reach : Int32) (v_ways_far : Int32) (v_ways_ready : Int32) (v_ways_size : Int32) (v_ways_whole : Int32) (v_list : Nat → Int32) (v_made_near : Nat → Int32) (v_now_near : Nat → Int32) (v_ways_layers : Nat → Int32) (v_ways_reached : Nat → Int32) (v_ways_steps : Nat → Int32) (H : Heap) (locs : List Loc) (ls : Array Slot), lv_has ls 5 [(0, .ref (g.2.1 0)), (1, .int x1), (2, .int x2)] → GW g s (mkS σ [(1539, v_likeness_ready), (769, v_made_size), (641, v_now_size), (2632, v_pairs_ready), (2372, v_search_reach), (1286, v_ways_far), (1283, v_ways_ready), (1285, v_ways_size), (1284, v_ways_whole)] [] [(16, v_list), (13, v_made_near), (11, v_now_near), (22, v_ways_layers), (23, v_ways_reached), (21, v_ways_steps)] []) H locs → k75 x1 x2 v_likeness_ready v_made_size v_now_size v_pairs_ready v_search_reach v_ways_far v_ways_ready v_ways_size v_ways_whole v_list v_made_near v_now_near v_ways_layers v_ways_reached v_ways_steps = some (r, w_likeness_ready, w_made_size, w_now_size, w_pairs_ready, w_search_reach, w_ways_far, w_ways_ready, w_ways_size, w_ways_whole, w_list, w_made_near, w_now_near, w_ways_layers, w_ways_reached, w_ways_steps) → Wg p l e 5 114 s m args below meth c g (some (.int r)) (mkS σ [(1539, w_likeness_ready), (769, w_made_size), (641, w_now_size), (2632, w_pairs_ready), (2372, w_search_reach), (1286, w_ways_far), (1283, w_ways_ready), (1285, w_ways_size), (1284, w_ways_whole)] [] [(16, w_list), (13, w_made_near), (11, w_now_near), (22, w_ways_layers), (23, w_ways_reached), (21, w_ways_steps)] []) H locs (F0 m 75 ls [])) (F : Nat) (x1 : Int32) (x2 : Int32) (x3 : Int32) (x4 : Int32) (v_likeness_ready : Int32) (v_made_size : Int32) (v_now_size : Int32) (v_pairs_ready : Int32) (v_search_reach : Int32) (v_ways_far : Int32) (v_ways_ready : Int32) (v_ways_size : Int32) (v_ways_whole : Int32) (v_list : Nat → Int32) (v_made_near : Nat → Int32) (v_now_near : Nat → Int32) (v_ways_layers : Nat → Int32) (v_ways_reached : Nat → Int32) (v_ways_steps : Nat → Int32) (H : Heap) (locs : List Loc) (ls : Array Slot), lv_has ls 5 [(0, .ref (g.2.1 0)), (1, .int x1), (2, .int x2), (3, .int x3), (4, .int x4)] → GW g s (mkS σ [(1539, v_likeness_ready), (769, v_made_size), (641, v_now_size), (2632, v_pairs_ready), (2372, v_search_reach), (1286, v_ways_far), (1283, v_ways_ready), (1285, v_ways_size), (1284, v_ways_whole)] [] [(16, v_list), (13, v_made_near), (11, v_now_near), (22, v_ways_layers), (23, v_ways_reached), (21, v_ways_steps)] []) H locs → LN_fold_l99 k75 F x1 x2 x3 x4 v_likeness_ready v_made_size v_now_size v_pairs_ready v_search_reach v_ways_far v_ways_ready v_ways_size v_ways_whole v_list v_made_near v_now_near v_ways_layers v_ways_reached v_ways_steps = some (r, w_likeness_ready, w_made_size, w_now_size, w_pairs_ready, w_search_reach, w_ways_far, w_ways_ready, w_ways_size, w_ways_whole, w_list, w_made_near, w_now_near, w_ways_layers, w_ways_reached, w_ways_steps) → Wg p l e 5 114 s m args below meth c g (some (.int r)) (mkS σ [(1539, w_likeness_ready), (769, w_made_size), (641, w_now_size), (2632, w_pairs_ready), (2372, w_search_reach), (1286, w_ways_far), (1283, w_ways_ready), (1285, w_ways_size), (1284, w_ways_whole)] [] [(16, w_list), (13, w_made_near), (11, w_now_near), (22, w_ways_layers), (23, w_ways_reached), (21, w_ways_steps)] []) H locs (F0 m 99 ls []) := by
    intro k75 hk75 F
    induction F with
    | zero => intro x1 x2 x3 x4 v_likeness_ready v_made_size v_now_size v_pairs_ready v_search_reach v_ways_far v_ways_ready v_ways_size v_ways_whole v_list v_made_near v_now_near v_ways_layers v_ways_reached v_ways_steps H locs ls hl hG h; exact no_some h
    | succ F ih => intro x1 x2 x3 x4 v_likeness_ready v_made_size v_now_size v_pairs_ready v_search_reach v_ways_far v_ways_ready v_ways_size v_ways_whole v_list v_made_near v_now_near v_ways_layers v_ways_reached v_ways_steps H locs ls hl hG h; exact n99 k75 hk75 (fun x1 x2 x3 x4 v_likeness_ready v_made_size v_now_size v_pairs_ready v_search_reach v_ways_far v_ways_ready v_ways_size v_ways_whole v_list v_made_near v_now_near v_ways_layers v_ways_reached v_ways_steps => LN_fold_l99 k75 F x1 x2 x3 x4 v_likeness_ready v_made_size v_now_size v_pairs_ready v_search_reach v_ways_far v_ways_ready v_ways_size v_ways_whole v_list v_made_near v_now_near v_ways_layers v_ways_reached v_ways_steps) ih x1 x2 x3 x4 v_likeness_ready v_made_size v_now_size v_pairs_ready v_search_reach v_ways_far v_ways_ready v_ways_size v_ways_whole v_list v_made_near v_now_near v_ways_layers v_ways_reached v_ways_steps H locs ls hl hG h
  have n139 : ∀ (v_likeness_ready : Int32) (v_made_size : Int32) (v_now_size : Int32) (v_pairs_ready : Int32) (v_search_reach : Int32) (v_ways_far : Int32) (v_ways_ready : Int32) (v_ways_size : Int32) (v_ways_whole : Int32) (v_list : Nat → Int32) (v_made_near : Nat → Int32) (v_now_near : Nat → Int32) (v_ways_layers : Nat → Int32) (v_ways_reached : Nat → Int32) (v_ways_steps : Nat → Int32) (H : Heap) (locs : List Loc) (ls : Array Slot), lv_has ls 5 [(0, .ref (g.2.1 0))] → GW g s (mkS σ [(1539, v_likeness_ready), (769, v_made_size), (641, v_now_size), (2632, v_pairs_ready), (2372, v_search_reach), (1286, v_ways_far), (1283, v_ways_ready), (1285, v_ways_size), (1284, v_ways_whole)] [] [(16, v_list), (13, v_made_near), (11, v_now_near), (22, v_ways_layers), (23, v_ways_reached), (21, v_ways_steps)] []) H locs → LN_fold_n139 v_likeness_ready v_made_size v_now_size v_pairs_ready v_search_reach v_ways_far v_ways_ready v_ways_size v_ways_whole v_list v_made_near v_now_near v_ways_layers v_ways_reached v_ways_steps = some (r, w_likeness_ready, w_made_size, w_now_size, w_pairs_ready, w_search_reach, w_ways_far, w_ways_ready, w_ways_size, w_ways_whole, w_list, w_made_near, w_now_near, w_ways_layers, w_ways_reached, w_ways_steps) → Wg p l e 5 114 s m args below meth c g (some (.int r)) (mkS σ [(1539, w_likeness_ready), (769, w_made_size), (641, w_now_size), (2632, w_pairs_ready), (2372, w_search_reach), (1286, w_ways_far), (1283, w_ways_ready), (1285, w_ways_size), (1284, w_ways_whole)] [] [(16, w_list), (13, w_made_near), (11, w_now_near), (22, w_ways_layers), (23, w_ways_reached), (21, w_ways_steps)] []) H locs (F0 m 139 ls []) := by
    intro v_likeness_ready v_made_size v_now_size v_pairs_ready v_search_reach v_ways_far v_ways_ready v_ways_size v_ways_whole v_list v_made_near v_now_near v_ways_layers v_ways_reached v_ways_steps H locs ls hl hG h
    unfold LN_fold_n139 at h
    refine lv_aload_n hx hb dX8_fold_139 rfl (lv_at hl 0 rfl) ?_
    obtain ⟨z6, hc7, h⟩ := bnd_some h
    refine gx_cV (σ' := (mkS σ [(1539, z6.2.1), (769, v_made_size), (641, z6.2.2.1), (2632, z6.2.2.2.1), (2372, z6.2.2.2.2.1), (1286, v_ways_far), (1283, z6.2.2.2.2.2.1), (1285, v_ways_size), (1284, v_ways_whole)] [] [(16, v_list), (13, v_made_near), (11, z6.2.2.2.2.2.2), (22, v_ways_layers), (23, v_ways_reached), (21, v_ways_steps)] [])) (r := (some (.int z6.1))) (rest := []) (As := []) hS9 (c_LN_adopt l g (mkS σ [(1539, v_likeness_ready), (769, v_made_size), (641, v_now_size), (2632, v_pairs_ready), (2372, v_search_reach), (1286, v_ways_far), (1283, v_ways_ready), (1285, v_ways_size), (1284, v_ways_whole)] [] [(16, v_list), (13, v_made_near), (11, v_now_near), (22, v_ways_layers), (23, v_ways_reached), (21, v_ways_steps)] []) z6.1 z6.2.1 z6.2.2.1 z6.2.2.2.1 z6.2.2.2.2.1 z6.2.2.2.2.2.1 z6.2.2.2.2.2.2 hc7) (mk_mk rfl rfl rfl rfl) (cwV 0 hts (gz_V mw_2_229 mw_2_231 ms_1_5 mw_1_1 mw_2_232) rfl rfl rfl hdV_X8_adopt ⟨Nat.le_of_ble_eq_true rfl, Nat.le_of_ble_eq_true rfl⟩) hK hG (ga_0 g _) rfl rfl rfl hl.1 rfl (Nat.le_of_ble_eq_true rfl) dX8_fold_140 (fun H locs hG => ?_)
    refine W.eq (g2 := F0 m 143 ls [.int z6.1]) rfl ?_
    cases h
    exact gx_iret hx hb hr hlocks hG dX8_fold_143
  have n75 : ∀ (k75 : Int32 → Int32 → Int32 → Int32 → Int32 → Int32 → Int32 → Int32 → Int32 → Int32 → Int32 → (Nat → Int32) → (Nat → Int32) → (Nat → Int32) → (Nat → Int32) → (Nat → Int32) → (Nat → Int32) → Option (Int32 × Int32 × Int32 × Int32 × Int32 × Int32 × Int32 × Int32 × Int32 × Int32 × (Nat → Int32) × (Nat → Int32) × (Nat → Int32) × (Nat → Int32) × (Nat → Int32) × (Nat → Int32))) (hk75 : ∀ (x1 : Int32) (x2 : Int32) (v_likeness_ready : Int32) (v_made_size : Int32) (v_now_size : Int32) (v_pairs_ready : Int32) (v_search_reach : Int32) (v_ways_far : Int32) (v_ways_ready : Int32) (v_ways_size : Int32) (v_ways_whole : Int32) (v_list : Nat → Int32) (v_made_near : Nat → Int32) (v_now_near : Nat → Int32) (v_ways_layers : Nat → Int32) (v_ways_reached : Nat → Int32) (v_ways_steps : Nat → Int32) (H : Heap) (locs : List Loc) (ls : Array Slot), lv_has ls 5 [(0, .ref (g.2.1 0)), (1, .int x1), (2, .int x2)] → GW g s (mkS σ [(1539, v_likeness_ready), (769, v_made_size), (641, v_now_size), (2632, v_pairs_ready), (2372, v_search_reach), (1286, v_ways_far), (1283, v_ways_ready), (1285, v_ways_size), (1284, v_ways_whole)] [] [(16, v_list), (13, v_made_near), (11, v_now_near), (22, v_ways_layers), (23, v_ways_reached), (21, v_ways_steps)] []) H locs → k75 x1 x2 v_likeness_ready v_made_size v_now_size v_pairs_ready v_search_reach v_ways_far v_ways_ready v_ways_size v_ways_whole v_list v_made_near v_now_near v_ways_layers v_ways_reached v_ways_steps = some (r, w_likeness_ready, w_made_size, w_now_size, w_pairs_ready, w_search_reach, w_ways_far, w_ways_ready, w_ways_size, w_ways_whole, w_list, w_made_near, w_now_near, w_ways_layers, w_ways_reached, w_ways_steps) → Wg p l e 5 114 s m args below meth c g (some (.int r)) (mkS σ [(1539, w_likeness_ready), (769, w_made_size), (641, w_now_size), (2632, w_pairs_ready), (2372, w_search_reach), (1286, w_ways_far), (1283, w_ways_ready), (1285, w_ways_size), (1284, w_ways_whole)] [] [(16, w_list), (13, w_made_near), (11, w_now_near), (22, w_ways_layers), (23, w_ways_reached), (21, w_ways_steps)] []) H locs (F0 m 75 ls [])) (x1 : Int32) (x2 : Int32) (v_likeness_ready : Int32) (v_made_size : Int32) (v_now_size : Int32) (v_pairs_ready : Int32) (v_search_reach : Int32) (v_ways_far : Int32) (v_ways_ready : Int32) (v_ways_size : Int32) (v_ways_whole : Int32) (v_list : Nat → Int32) (v_made_near : Nat → Int32) (v_now_near : Nat → Int32) (v_ways_layers : Nat → Int32) (v_ways_reached : Nat → Int32) (v_ways_steps : Nat → Int32) (H : Heap) (locs : List Loc) (ls : Array Slot), lv_has ls 5 [(0, .ref (g.2.1 0)), (1, .int x1), (2, .int x2)] → GW g s (mkS σ [(1539, v_likeness_ready), (769, v_made_size), (641, v_now_size), (2632, v_pairs_ready), (2372, v_search_reach), (1286, v_ways_far), (1283, v_ways_ready), (1285, v_ways_size), (1284, v_ways_whole)] [] [(16, v_list), (13, v_made_near), (11, v_now_near), (22, v_ways_layers), (23, v_ways_reached), (21, v_ways_steps)] []) H locs → LN_fold_n75 k75 x1 x2 v_likeness_ready v_made_size v_now_size v_pairs_ready v_search_reach v_ways_far v_ways_ready v_ways_size v_ways_whole v_list v_made_near v_now_near v_ways_layers v_ways_reached v_ways_steps = some (r, w_likeness_ready, w_made_size, w_now_size, w_pairs_ready, w_search_reach, w_ways_far, w_ways_ready, w_ways_size, w_ways_whole, w_list, w_made_near, w_now_near, w_ways_layers, w_ways_reached, w_ways_steps) → Wg p l e 5 114 s m args below meth c g (some (.int r)) (mkS σ [(1539, w_likeness_ready), (769, w_made_size), (641, w_now_size), (2632, w_pairs_ready), (2372, w_search_reach), (1286, w_ways_far), (1283, w_ways_ready), (1285, w_ways_size), (1284, w_ways_whole)] [] [(16, w_list), (13, w_made_near), (11, w_now_near), (22, w_ways_layers), (23, w_ways_reached), (21, w_ways_steps)] []) H locs (F0 m 75 ls []) := by
    intro k75 hk75 x1 x2 v_likeness_ready v_made_size v_now_size v_pairs_ready v_search_reach v_ways_far v_ways_ready v_ways_size v_ways_whole v_list v_made_near v_now_near v_ways_layers v_ways_reached v_ways_steps H locs ls hl hG h
    unfold LN_fold_n75 at h
    refine lv_iload_n hx hb dX8_fold_75 rfl (lv_at hl 2 rfl) ?_
    refine lv_iload_n hx hb dX8_fold_76 rfl (lv_at hl 1 rfl) ?_
    refine lv_icmp_ge (tgt := 139) hx hb dX8_fold_77 (by decide) (fun c8 => ?_) (fun c8 => ?_)
    · have h := ite_t c8 h
      exact n139 v_likeness_ready v_made_size v_now_size v_pairs_ready v_search_reach v_ways_far v_ways_ready v_ways_size v_ways_whole v_list v_made_near v_now_near v_ways_layers v_ways_reached v_ways_steps _ _ _ (lv_sub hl [0] rfl) hG h
    · have h := ite_f c8 h
      refine lv_aload_n hx hb dX8_fold_80 rfl (lv_at hl 0 rfl) ?_
      refine gx_get (v := .ref (g.2.1 10)) (C := RX8) (T := TX8) (N := 13) hx hb hts mc_X8 hown hK hG (ga_0 g _) rfl 1 (by decide) hw2 rfl rfl dX8_fold_81 ?_
      refine lv_aload_n hx hb dX8_fold_84 rfl (lv_at hl 0 rfl) ?_
      refine gx_get (v := .ref (g.2.1 16)) (C := RX8) (T := TX8) (N := 13) hx hb hts mc_X8 hown hK hG (ga_0 g _) rfl 4 (by decide) hw0 rfl rfl dX8_fold_85 ?_
      refine lv_iload_n hx hb dX8_fold_88 rfl (lv_at hl 2 rfl) ?_
      obtain ⟨hg9, h⟩ := gd_some h
      refine gx_iald (f := v_list) hx hb hK hG (ga_16 g _) hg9 dX8_fold_89 ?_
      obtain ⟨z10, hc11, h⟩ := bnd_some h
      refine gx_cV (σ' := (mkS σ [(1539, v_likeness_ready), (769, v_made_size), (641, v_now_size), (2632, v_pairs_ready), (2372, v_search_reach), (1286, v_ways_far), (1283, v_ways_ready), (1285, v_ways_size), (1284, v_ways_whole)] [] [(16, v_list), (13, v_made_near), (11, v_now_near), (22, v_ways_layers), (23, v_ways_reached), (21, v_ways_steps)] [])) (r := (some (.int z10))) (rest := []) (As := [.int (v_list (x2.toNatClampNeg))]) hS9 (c_Net_around_10 l g (mkS σ [(1539, v_likeness_ready), (769, v_made_size), (641, v_now_size), (2632, v_pairs_ready), (2372, v_search_reach), (1286, v_ways_far), (1283, v_ways_ready), (1285, v_ways_size), (1284, v_ways_whole)] [] [(16, v_list), (13, v_made_near), (11, v_now_near), (22, v_ways_layers), (23, v_ways_reached), (21, v_ways_steps)] []) (v_list (x2.toNatClampNeg)) z10 hc11) rfl (cwV 1 hts (gz_V mw_4_15 mw_3_24 mw_3_25 mw_1_3 mw_3_26) rfl rfl rfl hdV_X2_around ⟨Nat.le_of_ble_eq_true rfl, Nat.le_of_ble_eq_true rfl⟩) hK hG (ga_10 g _) rfl rfl rfl hl.1 rfl (Nat.le_of_ble_eq_true rfl) dX8_fold_90 (fun H locs hG => ?_)
      refine W.eq (g2 := F0 m 93 ls [.int z10]) rfl ?_
      refine lv_istore_n (lv' := [(3, .int z10), (0, .ref (g.2.1 0)), (1, .int x1), (2, .int x2)]) hx hb dX8_fold_93 rfl hl (Nat.le_of_ble_eq_true rfl) rfl (fun ls hl => ?_)
      refine lv_iload_n hx hb dX8_fold_94 rfl (lv_at hl 3 rfl) ?_
      refine lv_iconst (v := (1 : Int32)) hx hb dX8_fold_95 (by decide) ?_
      refine lv_iadd hx hb dX8_fold_96 ?_
      refine lv_istore (lv' := [(4, .int (x2 + (1 : Int32))), (3, .int z10), (0, .ref (g.2.1 0)), (1, .int x1), (2, .int x2)]) hx hb dX8_fold_97 hl (Nat.le_of_ble_eq_true rfl) rfl (fun ls hl => ?_)
      exact l99 k75 hk75 FUEL x1 x2 z10 (x2 + (1 : Int32)) v_likeness_ready v_made_size v_now_size v_pairs_ready v_search_reach v_ways_far v_ways_ready v_ways_size v_ways_whole v_list v_made_near v_now_near v_ways_layers v_ways_reached v_ways_steps _ _ _ (lv_sub hl [2, 3, 4, 1, 0] rfl) hG h
  have l75 : ∀  (F : Nat) (x1 : Int32) (x2 : Int32) (v_likeness_ready : Int32) (v_made_size : Int32) (v_now_size : Int32) (v_pairs_ready : Int32) (v_search_reach : Int32) (v_ways_far : Int32) (v_ways_ready : Int32) (v_ways_size : Int32) (v_ways_whole : Int32) (v_list : Nat → Int32) (v_made_near : Nat → Int32) (v_now_near : Nat → Int32) (v_ways_layers : Nat → Int32) (v_ways_reached : Nat → Int32) (v_ways_steps : Nat → Int32) (H : Heap) (locs : List Loc) (ls : Array Slot), lv_has ls 5 [(0, .ref (g.2.1 0)), (1, .int x1), (2, .int x2)] → GW g s (mkS σ [(1539, v_likeness_ready), (769, v_made_size), (641, v_now_size), (2632, v_pairs_ready), (2372, v_search_reach), (1286, v_ways_far), (1283, v_ways_ready), (1285, v_ways_size), (1284, v_ways_whole)] [] [(16, v_list), (13, v_made_near), (11, v_now_near), (22, v_ways_layers), (23, v_ways_reached), (21, v_ways_steps)] []) H locs → LN_fold_l75 F x1 x2 v_likeness_ready v_made_size v_now_size v_pairs_ready v_search_reach v_ways_far v_ways_ready v_ways_size v_ways_whole v_list v_made_near v_now_near v_ways_layers v_ways_reached v_ways_steps = some (r, w_likeness_ready, w_made_size, w_now_size, w_pairs_ready, w_search_reach, w_ways_far, w_ways_ready, w_ways_size, w_ways_whole, w_list, w_made_near, w_now_near, w_ways_layers, w_ways_reached, w_ways_steps) → Wg p l e 5 114 s m args below meth c g (some (.int r)) (mkS σ [(1539, w_likeness_ready), (769, w_made_size), (641, w_now_size), (2632, w_pairs_ready), (2372, w_search_reach), (1286, w_ways_far), (1283, w_ways_ready), (1285, w_ways_size), (1284, w_ways_whole)] [] [(16, w_list), (13, w_made_near), (11, w_now_near), (22, w_ways_layers), (23, w_ways_reached), (21, w_ways_steps)] []) H locs (F0 m 75 ls []) := by
    intro F
    induction F with
    | zero => intro x1 x2 v_likeness_ready v_made_size v_now_size v_pairs_ready v_search_reach v_ways_far v_ways_ready v_ways_size v_ways_whole v_list v_made_near v_now_near v_ways_layers v_ways_reached v_ways_steps H locs ls hl hG h; exact no_some h
    | succ F ih => intro x1 x2 v_likeness_ready v_made_size v_now_size v_pairs_ready v_search_reach v_ways_far v_ways_ready v_ways_size v_ways_whole v_list v_made_near v_now_near v_ways_layers v_ways_reached v_ways_steps H locs ls hl hG h; exact n75 (fun x1 x2 v_likeness_ready v_made_size v_now_size v_pairs_ready v_search_reach v_ways_far v_ways_ready v_ways_size v_ways_whole v_list v_made_near v_now_near v_ways_layers v_ways_reached v_ways_steps => LN_fold_l75 F x1 x2 v_likeness_ready v_made_size v_now_size v_pairs_ready v_search_reach v_ways_far v_ways_ready v_ways_size v_ways_whole v_list v_made_near v_now_near v_ways_layers v_ways_reached v_ways_steps) ih x1 x2 v_likeness_ready v_made_size v_now_size v_pairs_ready v_search_reach v_ways_far v_ways_ready v_ways_size v_ways_whole v_list v_made_near v_now_near v_ways_layers v_ways_reached v_ways_steps H locs ls hl hG h
  have n65 : ∀ (x1 : Int32) (v_likeness_ready : Int32) (v_made_size : Int32) (v_now_size : Int32) (v_pairs_ready : Int32) (v_search_reach : Int32) (v_ways_far : Int32) (v_ways_ready : Int32) (v_ways_size : Int32) (v_ways_whole : Int32) (v_list : Nat → Int32) (v_made_near : Nat → Int32) (v_now_near : Nat → Int32) (v_ways_layers : Nat → Int32) (v_ways_reached : Nat → Int32) (v_ways_steps : Nat → Int32) (H : Heap) (locs : List Loc) (ls : Array Slot), lv_has ls 5 [(0, .ref (g.2.1 0)), (1, .int x1)] → GW g s (mkS σ [(1539, v_likeness_ready), (769, v_made_size), (641, v_now_size), (2632, v_pairs_ready), (2372, v_search_reach), (1286, v_ways_far), (1283, v_ways_ready), (1285, v_ways_size), (1284, v_ways_whole)] [] [(16, v_list), (13, v_made_near), (11, v_now_near), (22, v_ways_layers), (23, v_ways_reached), (21, v_ways_steps)] []) H locs → LN_fold_n65 x1 v_likeness_ready v_made_size v_now_size v_pairs_ready v_search_reach v_ways_far v_ways_ready v_ways_size v_ways_whole v_list v_made_near v_now_near v_ways_layers v_ways_reached v_ways_steps = some (r, w_likeness_ready, w_made_size, w_now_size, w_pairs_ready, w_search_reach, w_ways_far, w_ways_ready, w_ways_size, w_ways_whole, w_list, w_made_near, w_now_near, w_ways_layers, w_ways_reached, w_ways_steps) → Wg p l e 5 114 s m args below meth c g (some (.int r)) (mkS σ [(1539, w_likeness_ready), (769, w_made_size), (641, w_now_size), (2632, w_pairs_ready), (2372, w_search_reach), (1286, w_ways_far), (1283, w_ways_ready), (1285, w_ways_size), (1284, w_ways_whole)] [] [(16, w_list), (13, w_made_near), (11, w_now_near), (22, w_ways_layers), (23, w_ways_reached), (21, w_ways_steps)] []) H locs (F0 m 65 ls []) := by
    intro x1 v_likeness_ready v_made_size v_now_size v_pairs_ready v_search_reach v_ways_far v_ways_ready v_ways_size v_ways_whole v_list v_made_near v_now_near v_ways_layers v_ways_reached v_ways_steps H locs ls hl hG h
    unfold LN_fold_n65 at h
    refine lv_aload_n hx hb dX8_fold_65 rfl (lv_at hl 0 rfl) ?_
    refine gx_get (v := .ref (g.2.1 12)) (C := RX8) (T := TX8) (N := 13) hx hb hts mc_X8 hown hK hG (ga_0 g _) rfl 2 (by decide) hw1 rfl rfl dX8_fold_66 ?_
    refine lv_iload_n hx hb dX8_fold_69 rfl (lv_at hl 1 rfl) ?_
    obtain ⟨z12, hc13, h⟩ := bnd_some h
    refine gx_cV (σ' := (mkS σ [(1539, v_likeness_ready), (769, z12.1), (641, v_now_size), (2632, v_pairs_ready), (2372, v_search_reach), (1286, v_ways_far), (1283, v_ways_ready), (1285, v_ways_size), (1284, v_ways_whole)] [] [(16, v_list), (13, z12.2), (11, v_now_near), (22, v_ways_layers), (23, v_ways_reached), (21, v_ways_steps)] [])) (r := none) (rest := []) (As := [.int x1]) hS9 (c_Net_empty_12 l g (mkS σ [(1539, v_likeness_ready), (769, v_made_size), (641, v_now_size), (2632, v_pairs_ready), (2372, v_search_reach), (1286, v_ways_far), (1283, v_ways_ready), (1285, v_ways_size), (1284, v_ways_whole)] [] [(16, v_list), (13, v_made_near), (11, v_now_near), (22, v_ways_layers), (23, v_ways_reached), (21, v_ways_steps)] []) x1 z12.1 z12.2 hc13) (mk_mk rfl rfl rfl rfl) (cwV 1 hts (gz_V mw_2_109 mw_2_110 mw_2_111 mw_1_3 mw_2_112) rfl rfl rfl hdV_X2_empty ⟨Nat.le_of_ble_eq_true rfl, Nat.le_of_ble_eq_true rfl⟩) hK hG (ga_12 g _) rfl rfl rfl hl.1 rfl (Nat.le_of_ble_eq_true rfl) dX8_fold_70 (fun H locs hG => ?_)
    refine W.eq (g2 := F0 m 73 ls []) rfl ?_
    refine lv_iconst (v := (0 : Int32)) hx hb dX8_fold_73 (by decide) ?_
    refine lv_istore_n (lv' := [(2, .int (0 : Int32)), (0, .ref (g.2.1 0)), (1, .int x1)]) hx hb dX8_fold_74 rfl hl (Nat.le_of_ble_eq_true rfl) rfl (fun ls hl => ?_)
    exact l75 FUEL x1 (0 : Int32) v_likeness_ready z12.1 v_now_size v_pairs_ready v_search_reach v_ways_far v_ways_ready v_ways_size v_ways_whole v_list z12.2 v_now_near v_ways_layers v_ways_reached v_ways_steps _ _ _ (lv_sub hl [1, 2, 0] rfl) hG h
  have n21 : ∀ (k21 : Int32 → Int32 → Int32 → Int32 → Int32 → Int32 → Int32 → Int32 → Int32 → Int32 → Int32 → (Nat → Int32) → (Nat → Int32) → (Nat → Int32) → (Nat → Int32) → (Nat → Int32) → (Nat → Int32) → Option (Int32 × Int32 × Int32 × Int32 × Int32 × Int32 × Int32 × Int32 × Int32 × Int32 × (Nat → Int32) × (Nat → Int32) × (Nat → Int32) × (Nat → Int32) × (Nat → Int32) × (Nat → Int32))) (hk21 : ∀ (x1 : Int32) (x2 : Int32) (v_likeness_ready : Int32) (v_made_size : Int32) (v_now_size : Int32) (v_pairs_ready : Int32) (v_search_reach : Int32) (v_ways_far : Int32) (v_ways_ready : Int32) (v_ways_size : Int32) (v_ways_whole : Int32) (v_list : Nat → Int32) (v_made_near : Nat → Int32) (v_now_near : Nat → Int32) (v_ways_layers : Nat → Int32) (v_ways_reached : Nat → Int32) (v_ways_steps : Nat → Int32) (H : Heap) (locs : List Loc) (ls : Array Slot), lv_has ls 5 [(0, .ref (g.2.1 0)), (1, .int x1), (2, .int x2)] → GW g s (mkS σ [(1539, v_likeness_ready), (769, v_made_size), (641, v_now_size), (2632, v_pairs_ready), (2372, v_search_reach), (1286, v_ways_far), (1283, v_ways_ready), (1285, v_ways_size), (1284, v_ways_whole)] [] [(16, v_list), (13, v_made_near), (11, v_now_near), (22, v_ways_layers), (23, v_ways_reached), (21, v_ways_steps)] []) H locs → k21 x1 x2 v_likeness_ready v_made_size v_now_size v_pairs_ready v_search_reach v_ways_far v_ways_ready v_ways_size v_ways_whole v_list v_made_near v_now_near v_ways_layers v_ways_reached v_ways_steps = some (r, w_likeness_ready, w_made_size, w_now_size, w_pairs_ready, w_search_reach, w_ways_far, w_ways_ready, w_ways_size, w_ways_whole, w_list, w_made_near, w_now_near, w_ways_layers, w_ways_reached, w_ways_steps) → Wg p l e 5 114 s m args below meth c g (some (.int r)) (mkS σ [(1539, w_likeness_ready), (769, w_made_size), (641, w_now_size), (2632, w_pairs_ready), (2372, w_search_reach), (1286, w_ways_far), (1283, w_ways_ready), (1285, w_ways_size), (1284, w_ways_whole)] [] [(16, w_list), (13, w_made_near), (11, w_now_near), (22, w_ways_layers), (23, w_ways_reached), (21, w_ways_steps)] []) H locs (F0 m 21 ls [])) (x1 : Int32) (x2 : Int32) (v_likeness_ready : Int32) (v_made_size : Int32) (v_now_size : Int32) (v_pairs_ready : Int32) (v_search_reach : Int32) (v_ways_far : Int32) (v_ways_ready : Int32) (v_ways_size : Int32) (v_ways_whole : Int32) (v_list : Nat → Int32) (v_made_near : Nat → Int32) (v_now_near : Nat → Int32) (v_ways_layers : Nat → Int32) (v_ways_reached : Nat → Int32) (v_ways_steps : Nat → Int32) (H : Heap) (locs : List Loc) (ls : Array Slot), lv_has ls 5 [(0, .ref (g.2.1 0)), (1, .int x1), (2, .int x2)] → GW g s (mkS σ [(1539, v_likeness_ready), (769, v_made_size), (641, v_now_size), (2632, v_pairs_ready), (2372, v_search_reach), (1286, v_ways_far), (1283, v_ways_ready), (1285, v_ways_size), (1284, v_ways_whole)] [] [(16, v_list), (13, v_made_near), (11, v_now_near), (22, v_ways_layers), (23, v_ways_reached), (21, v_ways_steps)] []) H locs → LN_fold_n21 k21 x1 x2 v_likeness_ready v_made_size v_now_size v_pairs_ready v_search_reach v_ways_far v_ways_ready v_ways_size v_ways_whole v_list v_made_near v_now_near v_ways_layers v_ways_reached v_ways_steps = some (r, w_likeness_ready, w_made_size, w_now_size, w_pairs_ready, w_search_reach, w_ways_far, w_ways_ready, w_ways_size, w_ways_whole, w_list, w_made_near, w_now_near, w_ways_layers, w_ways_reached, w_ways_steps) → Wg p l e 5 114 s m args below meth c g (some (.int r)) (mkS σ [(1539, w_likeness_ready), (769, w_made_size), (641, w_now_size), (2632, w_pairs_ready), (2372, w_search_reach), (1286, w_ways_far), (1283, w_ways_ready), (1285, w_ways_size), (1284, w_ways_whole)] [] [(16, w_list), (13, w_made_near), (11, w_now_near), (22, w_ways_layers), (23, w_ways_reached), (21, w_ways_steps)] []) H locs (F0 m 21 ls []) := by
    intro k21 hk21 x1 x2 v_likeness_ready v_made_size v_now_size v_pairs_ready v_search_reach v_ways_far v_ways_ready v_ways_size v_ways_whole v_list v_made_near v_now_near v_ways_layers v_ways_reached v_ways_steps H locs ls hl hG h
    unfold LN_fold_n21 at h
    refine lv_iload_n hx hb dX8_fold_21 rfl (lv_at hl 2 rfl) ?_
    refine lv_aload_n hx hb dX8_fold_22 rfl (lv_at hl 0 rfl) ?_
    refine gx_get (v := .ref (g.2.1 10)) (C := RX8) (T := TX8) (N := 13) hx hb hts mc_X8 hown hK hG (ga_0 g _) rfl 1 (by decide) hw2 rfl rfl dX8_fold_23 ?_
    refine gx_get (v := .int v_now_size) (C := RX2) (T := TX2) (N := 2) hx hb hts mc_X2 hown hK hG (ga_10 g _) rfl 1 (by decide) hw3 rfl rfl dX8_fold_26 ?_
    refine lv_icmp_ge (tgt := 65) hx hb dX8_fold_29 (by decide) (fun c14 => ?_) (fun c14 => ?_)
    · have h := ite_t c14 h
      exact n65 x1 v_likeness_ready v_made_size v_now_size v_pairs_ready v_search_reach v_ways_far v_ways_ready v_ways_size v_ways_whole v_list v_made_near v_now_near v_ways_layers v_ways_reached v_ways_steps _ _ _ (lv_sub hl [0, 1] rfl) hG h
    · have h := ite_f c14 h
      refine lv_aload_n hx hb dX8_fold_32 rfl (lv_at hl 0 rfl) ?_
      refine gx_get (v := .ref (g.2.1 20)) (C := RX8) (T := TX8) (N := 13) hx hb hts mc_X8 hown hK hG (ga_0 g _) rfl 7 (by decide) hw4 rfl rfl dX8_fold_33 ?_
      refine lv_iload_n hx hb dX8_fold_36 rfl (lv_at hl 2 rfl) ?_
      obtain ⟨z15, hc16, h⟩ := bnd_some h
      refine gx_cV (σ' := (mkS σ [(1539, v_likeness_ready), (769, v_made_size), (641, v_now_size), (2632, v_pairs_ready), (2372, v_search_reach), (1286, v_ways_far), (1283, v_ways_ready), (1285, v_ways_size), (1284, v_ways_whole)] [] [(16, v_list), (13, v_made_near), (11, v_now_near), (22, v_ways_layers), (23, v_ways_reached), (21, v_ways_steps)] [])) (r := (some (.int z15))) (rest := []) (As := [.int x2]) hS9 (c_Wy_farGroup l g (mkS σ [(1539, v_likeness_ready), (769, v_made_size), (641, v_now_size), (2632, v_pairs_ready), (2372, v_search_reach), (1286, v_ways_far), (1283, v_ways_ready), (1285, v_ways_size), (1284, v_ways_whole)] [] [(16, v_list), (13, v_made_near), (11, v_now_near), (22, v_ways_layers), (23, v_ways_reached), (21, v_ways_steps)] []) x2 z15 hc16) rfl (cwV 1 hts (gz_V mw_4_13 mw_3_79 mw_3_80 mw_1_5 mw_3_81) rfl rfl rfl hdV_X7_farGroup ⟨Nat.le_of_ble_eq_true rfl, Nat.le_of_ble_eq_true rfl⟩) hK hG (ga_20 g _) rfl rfl rfl hl.1 rfl (Nat.le_of_ble_eq_true rfl) dX8_fold_37 (fun H locs hG => ?_)
      refine W.eq (g2 := F0 m 40 ls [.int z15]) rfl ?_
      refine lv_istore_n (lv' := [(3, .int z15), (0, .ref (g.2.1 0)), (1, .int x1), (2, .int x2)]) hx hb dX8_fold_40 rfl hl (Nat.le_of_ble_eq_true rfl) rfl (fun ls hl => ?_)
      refine lv_iload_n hx hb dX8_fold_41 rfl (lv_at hl 0 rfl) ?_
      obtain ⟨z17, hc18, h⟩ := bnd_some h
      refine gx_cS (σ' := (mkS σ [(1539, v_likeness_ready), (769, v_made_size), (641, v_now_size), (2632, v_pairs_ready), (2372, v_search_reach), (1286, v_ways_far), (1283, v_ways_ready), (1285, v_ways_size), (1284, v_ways_whole)] [] [(16, v_list), (13, v_made_near), (11, v_now_near), (22, v_ways_layers), (23, v_ways_reached), (21, v_ways_steps)] [])) (r := (some (.int z17))) (rest := []) (As := [.int z15]) hS9 (c_LN_lowestBit l g (mkS σ [(1539, v_likeness_ready), (769, v_made_size), (641, v_now_size), (2632, v_pairs_ready), (2372, v_search_reach), (1286, v_ways_far), (1283, v_ways_ready), (1285, v_ways_size), (1284, v_ways_whole)] [] [(16, v_list), (13, v_made_near), (11, v_now_near), (22, v_ways_layers), (23, v_ways_reached), (21, v_ways_steps)] []) z15 z17 hc18) rfl (va_cwS 1 hts (gz_S mw_4_14 mw_3_46 mw_1_1 mw_3_47) rfl rfl rfl hdS_X8_lowestBit ⟨Nat.le_of_ble_eq_true rfl, Nat.le_of_ble_eq_true rfl⟩) hK hG rfl hl.1 rfl (Nat.le_of_ble_eq_true rfl) dX8_fold_42 (fun H locs hG => ?_)
      refine W.eq (g2 := F0 m 45 ls [.int z17]) rfl ?_
      refine lv_iload_n hx hb dX8_fold_45 rfl (lv_at hl 3 rfl) ?_
      refine lv_icmp_ne (tgt := 59) hx hb dX8_fold_46 (by decide) (fun c19 => ?_) (fun c19 => ?_)
      · have h := ite_f c19 h
        exact n59 k21 hk21 x1 x2 v_likeness_ready v_made_size v_now_size v_pairs_ready v_search_reach v_ways_far v_ways_ready v_ways_size v_ways_whole v_list v_made_near v_now_near v_ways_layers v_ways_reached v_ways_steps _ _ _ (lv_sub hl [1, 2, 3] rfl) hG h
      · have h := ite_t c19 h
        refine lv_aload_n hx hb dX8_fold_49 rfl (lv_at hl 1 rfl) ?_
        refine gx_get (v := .ref (g.2.1 16)) (C := RX8) (T := TX8) (N := 13) hx hb hts mc_X8 hown hK hG (ga_0 g _) rfl 4 (by decide) hw0 rfl rfl dX8_fold_50 ?_
        refine lv_iload_n hx hb dX8_fold_53 rfl (lv_at hl 2 rfl) ?_
        refine lv_iload_n hx hb dX8_fold_54 rfl (lv_at hl 0 rfl) ?_
        obtain ⟨hg20, h⟩ := gd_some h
        refine gx_iast (σ' := (mkS σ [(1539, v_likeness_ready), (769, v_made_size), (641, v_now_size), (2632, v_pairs_ready), (2372, v_search_reach), (1286, v_ways_far), (1283, v_ways_ready), (1285, v_ways_size), (1284, v_ways_whole)] [] [(16, (upd v_list (x1.toNatClampNeg) z15)), (13, v_made_near), (11, v_now_near), (22, v_ways_layers), (23, v_ways_reached), (21, v_ways_steps)] [])) (f := v_list) hx hb hK hG (ga_16 g _) hg20 ((gs_16 g _ _).trans (congrArg (g_cells g) (mk_c 0 rfl rfl))) dX8_fold_55 (fun H locs hG => ?_)
        refine lv_iinc (v := (x1 + (1 : Int32))) (lv' := [(1, .int (x1 + (1 : Int32))), (3, .int z15), (0, .ref (g.2.1 0)), (2, .int x2)]) hx hb dX8_fold_56 hl (k := 2) rfl (congrArg (fun z => x1 + z) (by decide)) (Nat.le_of_ble_eq_true rfl) rfl (fun ls hl => ?_)
        exact n59 k21 hk21 (x1 + (1 : Int32)) x2 v_likeness_ready v_made_size v_now_size v_pairs_ready v_search_reach v_ways_far v_ways_ready v_ways_size v_ways_whole (upd v_list (x1.toNatClampNeg) z15) v_made_near v_now_near v_ways_layers v_ways_reached v_ways_steps _ _ _ (lv_sub hl [2, 0, 3] rfl) hG h
  have l21 : ∀  (F : Nat) (x1 : Int32) (x2 : Int32) (v_likeness_ready : Int32) (v_made_size : Int32) (v_now_size : Int32) (v_pairs_ready : Int32) (v_search_reach : Int32) (v_ways_far : Int32) (v_ways_ready : Int32) (v_ways_size : Int32) (v_ways_whole : Int32) (v_list : Nat → Int32) (v_made_near : Nat → Int32) (v_now_near : Nat → Int32) (v_ways_layers : Nat → Int32) (v_ways_reached : Nat → Int32) (v_ways_steps : Nat → Int32) (H : Heap) (locs : List Loc) (ls : Array Slot), lv_has ls 5 [(0, .ref (g.2.1 0)), (1, .int x1), (2, .int x2)] → GW g s (mkS σ [(1539, v_likeness_ready), (769, v_made_size), (641, v_now_size), (2632, v_pairs_ready), (2372, v_search_reach), (1286, v_ways_far), (1283, v_ways_ready), (1285, v_ways_size), (1284, v_ways_whole)] [] [(16, v_list), (13, v_made_near), (11, v_now_near), (22, v_ways_layers), (23, v_ways_reached), (21, v_ways_steps)] []) H locs → LN_fold_l21 F x1 x2 v_likeness_ready v_made_size v_now_size v_pairs_ready v_search_reach v_ways_far v_ways_ready v_ways_size v_ways_whole v_list v_made_near v_now_near v_ways_layers v_ways_reached v_ways_steps = some (r, w_likeness_ready, w_made_size, w_now_size, w_pairs_ready, w_search_reach, w_ways_far, w_ways_ready, w_ways_size, w_ways_whole, w_list, w_made_near, w_now_near, w_ways_layers, w_ways_reached, w_ways_steps) → Wg p l e 5 114 s m args below meth c g (some (.int r)) (mkS σ [(1539, w_likeness_ready), (769, w_made_size), (641, w_now_size), (2632, w_pairs_ready), (2372, w_search_reach), (1286, w_ways_far), (1283, w_ways_ready), (1285, w_ways_size), (1284, w_ways_whole)] [] [(16, w_list), (13, w_made_near), (11, w_now_near), (22, w_ways_layers), (23, w_ways_reached), (21, w_ways_steps)] []) H locs (F0 m 21 ls []) := by
    intro F
    induction F with
    | zero => intro x1 x2 v_likeness_ready v_made_size v_now_size v_pairs_ready v_search_reach v_ways_far v_ways_ready v_ways_size v_ways_whole v_list v_made_near v_now_near v_ways_layers v_ways_reached v_ways_steps H locs ls hl hG h; exact no_some h
    | succ F ih => intro x1 x2 v_likeness_ready v_made_size v_now_size v_pairs_ready v_search_reach v_ways_far v_ways_ready v_ways_size v_ways_whole v_list v_made_near v_now_near v_ways_layers v_ways_reached v_ways_steps H locs ls hl hG h; exact n21 (fun x1 x2 v_likeness_ready v_made_size v_now_size v_pairs_ready v_search_reach v_ways_far v_ways_ready v_ways_size v_ways_whole v_list v_made_near v_now_near v_ways_layers v_ways_reached v_ways_steps => LN_fold_l21 F x1 x2 v_likeness_ready v_made_size v_now_size v_pairs_ready v_search_reach v_ways_far v_ways_ready v_ways_size v_ways_whole v_list v_made_near v_now_near v_ways_layers v_ways_reached v_ways_steps) ih x1 x2 v_likeness_ready v_made_size v_now_size v_pairs_ready v_search_reach v_ways_far v_ways_ready v_ways_size v_ways_whole v_list v_made_near v_now_near v_ways_layers v_ways_reached v_ways_steps H locs ls hl hG h
  refine lv_aload_n hx hb dX8_fold_0 rfl (lv_at hl 0 rfl) ?_
  obtain ⟨z21, hc22, h⟩ := bnd_some h
  refine gx_cV (σ' := (mkS σ [(1539, (σ.1 1539)), (769, (σ.1 769)), (641, (σ.1 641)), (2632, (σ.1 2632)), (2372, (σ.1 2372)), (1286, z21.1), (1283, z21.2.1), (1285, z21.2.2.1), (1284, z21.2.2.2.1)] [] [(16, (σ.2.2.1 16)), (13, (σ.2.2.1 13)), (11, (σ.2.2.1 11)), (22, z21.2.2.2.2.1), (23, z21.2.2.2.2.2.1), (21, z21.2.2.2.2.2.2)] [])) (r := none) (rest := []) (As := []) hS9 (c_LN_measure l g (mkS σ [(1539, (σ.1 1539)), (769, (σ.1 769)), (641, (σ.1 641)), (2632, (σ.1 2632)), (2372, (σ.1 2372)), (1286, (σ.1 1286)), (1283, (σ.1 1283)), (1285, (σ.1 1285)), (1284, (σ.1 1284))] [] [(16, (σ.2.2.1 16)), (13, (σ.2.2.1 13)), (11, (σ.2.2.1 11)), (22, (σ.2.2.1 22)), (23, (σ.2.2.1 23)), (21, (σ.2.2.1 21))] []) z21.1 z21.2.1 z21.2.2.1 z21.2.2.2.1 z21.2.2.2.2.1 z21.2.2.2.2.2.1 z21.2.2.2.2.2.2 hc22) (mk_mk rfl rfl rfl rfl) (cwV 0 hts (gz_V mw_3_5 mw_3_7 ms_1_6 mw_1_1 mw_3_8) rfl rfl rfl hdV_X8_measure ⟨Nat.le_of_ble_eq_true rfl, Nat.le_of_ble_eq_true rfl⟩) hK hG (ga_0 g _) rfl rfl rfl hl.1 rfl (Nat.le_of_ble_eq_true rfl) dX8_fold_1 (fun H locs hG => ?_)
  refine W.eq (g2 := F0 m 4 ls []) rfl ?_
  refine lv_aload_n hx hb dX8_fold_4 rfl (lv_at hl 0 rfl) ?_
  refine gx_get (v := .ref (g.2.1 20)) (C := RX8) (T := TX8) (N := 13) hx hb hts mc_X8 hown hK hG (ga_0 g _) rfl 7 (by decide) hw4 rfl rfl dX8_fold_5 ?_
  obtain ⟨z23, hc24, h⟩ := bnd_some h
  refine gx_cV (σ' := (mkS σ [(1539, (σ.1 1539)), (769, (σ.1 769)), (641, (σ.1 641)), (2632, (σ.1 2632)), (2372, (σ.1 2372)), (1286, z21.1), (1283, z21.2.1), (1285, z21.2.2.1), (1284, z21.2.2.2.1)] [] [(16, (σ.2.2.1 16)), (13, (σ.2.2.1 13)), (11, (σ.2.2.1 11)), (22, z21.2.2.2.2.1), (23, z21.2.2.2.2.2.1), (21, z21.2.2.2.2.2.2)] [])) (r := (some (.int z23))) (rest := []) (As := []) hS9 (c_Wy_isFolded l g (mkS σ [(1539, (σ.1 1539)), (769, (σ.1 769)), (641, (σ.1 641)), (2632, (σ.1 2632)), (2372, (σ.1 2372)), (1286, z21.1), (1283, z21.2.1), (1285, z21.2.2.1), (1284, z21.2.2.2.1)] [] [(16, (σ.2.2.1 16)), (13, (σ.2.2.1 13)), (11, (σ.2.2.1 11)), (22, z21.2.2.2.2.1), (23, z21.2.2.2.2.2.1), (21, z21.2.2.2.2.2.2)] []) z23 hc24) rfl (cwV 0 hts (gz_V mw_3_74 mw_3_75 mw_3_76 mw_1_5 mw_3_77) rfl rfl rfl hdV_X7_isFolded ⟨Nat.le_of_ble_eq_true rfl, Nat.le_of_ble_eq_true rfl⟩) hK hG (ga_20 g _) rfl rfl rfl hl.1 rfl (Nat.le_of_ble_eq_true rfl) dX8_fold_8 (fun H locs hG => ?_)
  refine W.eq (g2 := F0 m 11 ls [.int z23]) rfl ?_
  refine lv_if_ne (tgt := 17) hx hb dX8_fold_11 (by decide) (fun c25 => ?_) (fun c25 => ?_)
  · have h := ite_f c25 h
    refine lv_iconst (v := (0 : Int32)) hx hb dX8_fold_17 (by decide) ?_
    refine lv_istore_n (lv' := [(1, .int (0 : Int32)), (0, .ref (g.2.1 0))]) hx hb dX8_fold_18 rfl hl (Nat.le_of_ble_eq_true rfl) rfl (fun ls hl => ?_)
    refine lv_iconst (v := (0 : Int32)) hx hb dX8_fold_19 (by decide) ?_
    refine lv_istore_n (lv' := [(2, .int (0 : Int32)), (1, .int (0 : Int32)), (0, .ref (g.2.1 0))]) hx hb dX8_fold_20 rfl hl (Nat.le_of_ble_eq_true rfl) rfl (fun ls hl => ?_)
    exact l21 FUEL (0 : Int32) (0 : Int32) (σ.1 1539) (σ.1 769) (σ.1 641) (σ.1 2632) (σ.1 2372) z21.1 z21.2.1 z21.2.2.1 z21.2.2.2.1 (σ.2.2.1 16) (σ.2.2.1 13) (σ.2.2.1 11) z21.2.2.2.2.1 z21.2.2.2.2.2.1 z21.2.2.2.2.2.2 _ _ _ (lv_sub hl [2, 1, 0] rfl) hG h
  · have h := ite_t c25 h
    refine lv_bipush (v := (-5 : Int32)) hx hb dX8_fold_14 (by decide) ?_
    cases h
    exact gx_iret hx hb hr hlocks hG dX8_fold_16

