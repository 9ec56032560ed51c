set_option maxHeartbeats 4000000 in
set_option maxRecDepth 100000 in
theorem c_M_isOfSides (l : Launch) (g : GC) (σ : St) (r : Int32) (w_far : Int32) (w_heaps : Int32) (w_isMeasured : Int32) (w_wayOf : Nat → Int32) (h : M_isOfSides (σ.1 3214) (σ.1 3215) (σ.1 3212) (σ.1 3203) (σ.2.2.1 54) (σ.2.2.1 59) = some (r, w_far, w_heaps, w_isMeasured, w_wayOf)) : Cn l g yX9_isOfSides (Cond.code yX9_isOfSides cX9_isOfSides 6 (some .boolean) :: wG) 2 47 [.ref (g.2.1 50)] σ (some (.int r)) (mkS σ [(3214, w_far), (3215, w_heaps), (3212, w_isMeasured)] [] [(59, w_wayOf)] []) := by
  unfold Cn
  refine Met.ofW (cc := cX9_isOfSides) (maxL := 6) (ret := (some .boolean)) (by decide) rfl ?_
  intro p e s m args below meth c s₁ B hml hv
  obtain ⟨hargs, hP0, hK⟩ := hv
  have hx := B.exec
  have hb := B.bytes
  have hr := B.returns
  have hts : ∀ w ∈ wG, w.before args s = true := fun w h => atoms_spec (ws := (Cond.code yX9_isOfSides cX9_isOfSides 6 (some .boolean) :: wG)) B.pre w (List.mem_cons_of_mem _ h)
  have hown : s.vm.findClass RX9 = some m.cls := findClass_of_methodNamed B.named
  have hlocks := B.notSynchronized
  have hS9 : CallFix p m c cX9_isOfSides 6 s args wG RX9 := ⟨hx, hb, hml, hown, hts⟩
  have hw0 := hts _ mw_4_142
  have hw1 := hts _ mw_4_143
  have hw2 := hts _ mw_4_152
  have hf9 : entryFrame m args 6 = _ := (congrArg (fun a => entryFrame m a 6) hargs).trans (lg_entry_eq m [.ref (g.2.1 50)] 6)
  show Wg p l e 2 47 s m args below meth c g (some (.int r)) (mkS σ [(3214, w_far), (3215, w_heaps), (3212, w_isMeasured)] [] [(59, w_wayOf)] []) s.heap [] (entryFrame m args 6)
  rw [hf9]
  have hl := lv_entry ([.ref (g.2.1 50)]) (n := 6) (Nat.le_of_ble_eq_true rfl)
  generalize (lg_sl ([.ref (g.2.1 50)]) ++ List.replicate (6 - (lg_sl ([.ref (g.2.1 50)])).length) Slot.unset).toArray = ls at hl ⊢
  have hl : lv_has ls 6 [(0, .ref (g.2.1 50))] := hl
  have hG : GW g s σ s.heap [] := ⟨hP0, va_S.rf⟩
  have hG : GW g s (mkS σ [(3214, (σ.1 3214)), (3215, (σ.1 3215)), (3212, (σ.1 3212))] [] [(59, (σ.2.2.1 59))] []) s.heap [] := GW_self [3214, 3215, 3212] [] [59] [] hG
  unfold M_isOfSides at h
  have n103 : ∀ (k29 : Int32 → Int32 → Int32 → Int32 → Int32 → Int32 → Int32 → (Nat → Int32) → Option (Int32 × Int32 × Int32 × Int32 × (Nat → Int32))) (hk29 : ∀ (x1 : Int32) (x2 : Int32) (x3 : Int32) (x4 : Int32) (v_far : Int32) (v_heaps : Int32) (v_isMeasured : Int32) (v_wayOf : Nat → Int32) (H : Heap) (locs : List Loc) (ls : Array Slot), lv_has ls 6 [(0, .ref (g.2.1 50)), (1, .int x1), (2, .int x2), (3, .int x3), (4, .int x4)] → GW g s (mkS σ [(3214, v_far), (3215, v_heaps), (3212, v_isMeasured)] [] [(59, v_wayOf)] []) H locs → k29 x1 x2 x3 x4 v_far v_heaps v_isMeasured v_wayOf = some (r, w_far, w_heaps, w_isMeasured, w_wayOf) → Wg p l e 2 47 s m args below meth c g (some (.int r)) (mkS σ [(3214, w_far), (3215, w_heaps), (3212, w_isMeasured)] [] [(59, w_wayOf)] []) H locs (F0 m 29 ls [])) (x2 : Int32) (x3 : Int32) (x4 : Int32) (t0 : Int32) (v_far : Int32) (v_heaps : Int32) (v_isMeasured : Int32) (v_wayOf : Nat → Int32) (H : Heap) (locs : List Loc) (ls : Array Slot), lv_has ls 6 [(0, .ref (g.2.1 50)), (2, .int x2), (3, .int x3), (4, .int x4)] → GW g s (mkS σ [(3214, v_far), (3215, v_heaps), (3212, v_isMeasured)] [] [(59, v_wayOf)] []) H locs → M_isOfSides_n103 k29 x2 x3 x4 t0 v_far v_heaps v_isMeasured v_wayOf = some (r, w_far, w_heaps, w_isMeasured, w_wayOf) → Wg p l e 2 47 s m args below meth c g (some (.int r)) (mkS σ [(3214, w_far), (3215, w_heaps), (3212, w_isMeasured)] [] [(59, w_wayOf)] []) H locs (F0 m 103 ls [.int t0]) := by
    intro k29 hk29 x2 x3 x4 t0 v_far v_heaps v_isMeasured v_wayOf H locs ls hl hG h
    unfold M_isOfSides_n103 at h
    refine lv_istore_n (lv' := [(1, .int t0), (0, .ref (g.2.1 50)), (2, .int x2), (3, .int x3), (4, .int x4)]) hx hb dX9_isOfSides_103 rfl hl (Nat.le_of_ble_eq_true rfl) rfl (fun ls hl => ?_)
    refine lv_iinc (v := (x4 + (1 : Int32))) (lv' := [(4, .int (x4 + (1 : Int32))), (1, .int t0), (0, .ref (g.2.1 50)), (2, .int x2), (3, .int x3)]) hx hb dX9_isOfSides_104 hl (k := 4) rfl (congrArg (fun z => x4 + z) (by decide)) (Nat.le_of_ble_eq_true rfl) rfl (fun ls hl => ?_)
    refine lv_goto (tgt := 29) hx hb dX9_isOfSides_107 (by decide) ?_
    exact hk29 t0 x2 x3 (x4 + (1 : Int32)) v_far v_heaps v_isMeasured v_wayOf _ _ _ (lv_sub hl [2, 1, 3, 4, 0] rfl) hG h
  have n98 : ∀ (k29 : Int32 → Int32 → Int32 → Int32 → Int32 → Int32 → Int32 → (Nat → Int32) → Option (Int32 × Int32 × Int32 × Int32 × (Nat → Int32))) (hk29 : ∀ (x1 : Int32) (x2 : Int32) (x3 : Int32) (x4 : Int32) (v_far : Int32) (v_heaps : Int32) (v_isMeasured : Int32) (v_wayOf : Nat → Int32) (H : Heap) (locs : List Loc) (ls : Array Slot), lv_has ls 6 [(0, .ref (g.2.1 50)), (1, .int x1), (2, .int x2), (3, .int x3), (4, .int x4)] → GW g s (mkS σ [(3214, v_far), (3215, v_heaps), (3212, v_isMeasured)] [] [(59, v_wayOf)] []) H locs → k29 x1 x2 x3 x4 v_far v_heaps v_isMeasured v_wayOf = some (r, w_far, w_heaps, w_isMeasured, w_wayOf) → Wg p l e 2 47 s m args below meth c g (some (.int r)) (mkS σ [(3214, w_far), (3215, w_heaps), (3212, w_isMeasured)] [] [(59, w_wayOf)] []) H locs (F0 m 29 ls [])) (x2 : Int32) (x3 : Int32) (x4 : Int32) (v_far : Int32) (v_heaps : Int32) (v_isMeasured : Int32) (v_wayOf : Nat → Int32) (H : Heap) (locs : List Loc) (ls : Array Slot), lv_has ls 6 [(0, .ref (g.2.1 50)), (2, .int x2), (3, .int x3), (4, .int x4)] → GW g s (mkS σ [(3214, v_far), (3215, v_heaps), (3212, v_isMeasured)] [] [(59, v_wayOf)] []) H locs → M_isOfSides_n98 k29 x2 x3 x4 v_far v_heaps v_isMeasured v_wayOf = some (r, w_far, w_heaps, w_isMeasured, w_wayOf) → Wg p l e 2 47 s m args below meth c g (some (.int r)) (mkS σ [(3214, w_far), (3215, w_heaps), (3212, w_isMeasured)] [] [(59, w_wayOf)] []) H locs (F0 m 98 ls []) := by
    intro k29 hk29 x2 x3 x4 v_far v_heaps v_isMeasured v_wayOf H locs ls hl hG h
    unfold M_isOfSides_n98 at h
    refine lv_iconst (v := (1 : Int32)) hx hb dX9_isOfSides_98 (by decide) ?_
    refine lv_goto (tgt := 103) hx hb dX9_isOfSides_99 (by decide) ?_
    exact n103 k29 hk29 x2 x3 x4 (1 : Int32) v_far v_heaps v_isMeasured v_wayOf _ _ _ (lv_sub hl [0, 1, 2, 3] rfl) hG h
  have n102 : ∀ (k29 : Int32 → Int32 → Int32 → Int32 → Int32 → Int32 → Int32 → (Nat → Int32) → Option (Int32 × Int32 × Int32 × Int32 × (Nat → Int32))) (hk29 : ∀ (x1 : Int32) (x2 : Int32) (x3 : Int32) (x4 : Int32) (v_far : Int32) (v_heaps : Int32) (v_isMeasured : Int32) (v_wayOf : Nat → Int32) (H : Heap) (locs : List Loc) (ls : Array Slot), lv_has ls 6 [(0, .ref (g.2.1 50)), (1, .int x1), (2, .int x2), (3, .int x3), (4, .int x4)] → GW g s (mkS σ [(3214, v_far), (3215, v_heaps), (3212, v_isMeasured)] [] [(59, v_wayOf)] []) H locs → k29 x1 x2 x3 x4 v_far v_heaps v_isMeasured v_wayOf = some (r, w_far, w_heaps, w_isMeasured, w_wayOf) → Wg p l e 2 47 s m args below meth c g (some (.int r)) (mkS σ [(3214, w_far), (3215, w_heaps), (3212, w_isMeasured)] [] [(59, w_wayOf)] []) H locs (F0 m 29 ls [])) (x2 : Int32) (x3 : Int32) (x4 : Int32) (v_far : Int32) (v_heaps : Int32) (v_isMeasured : Int32) (v_wayOf : Nat → Int32) (H : Heap) (locs : List Loc) (ls : Array Slot), lv_has ls 6 [(0, .ref (g.2.1 50)), (2, .int x2), (3, .int x3), (4, .int x4)] → GW g s (mkS σ [(3214, v_far), (3215, v_heaps), (3212, v_isMeasured)] [] [(59, v_wayOf)] []) H locs → M_isOfSides_n102 k29 x2 x3 x4 v_far v_heaps v_isMeasured v_wayOf = some (r, w_far, w_heaps, w_isMeasured, w_wayOf) → Wg p l e 2 47 s m args below meth c g (some (.int r)) (mkS σ [(3214, w_far), (3215, w_heaps), (3212, w_isMeasured)] [] [(59, w_wayOf)] []) H locs (F0 m 102 ls []) := by
    intro k29 hk29 x2 x3 x4 v_far v_heaps v_isMeasured v_wayOf H locs ls hl hG h
    unfold M_isOfSides_n102 at h
    refine lv_iconst (v := (0 : Int32)) hx hb dX9_isOfSides_102 (by decide) ?_
    exact n103 k29 hk29 x2 x3 x4 (0 : Int32) v_far v_heaps v_isMeasured v_wayOf _ _ _ (lv_sub hl [0, 1, 2, 3] rfl) hG h
  have n110 : ∀ (k18 : Int32 → Int32 → Int32 → Int32 → Int32 → Int32 → (Nat → Int32) → Option (Int32 × Int32 × Int32 × Int32 × (Nat → Int32))) (hk18 : ∀ (x1 : Int32) (x2 : Int32) (x3 : Int32) (v_far : Int32) (v_heaps : Int32) (v_isMeasured : Int32) (v_wayOf : Nat → Int32) (H : Heap) (locs : List Loc) (ls : Array Slot), lv_has ls 6 [(0, .ref (g.2.1 50)), (1, .int x1), (2, .int x2), (3, .int x3)] → GW g s (mkS σ [(3214, v_far), (3215, v_heaps), (3212, v_isMeasured)] [] [(59, v_wayOf)] []) H locs → k18 x1 x2 x3 v_far v_heaps v_isMeasured v_wayOf = some (r, w_far, w_heaps, w_isMeasured, w_wayOf) → Wg p l e 2 47 s m args below meth c g (some (.int r)) (mkS σ [(3214, w_far), (3215, w_heaps), (3212, w_isMeasured)] [] [(59, w_wayOf)] []) H locs (F0 m 18 ls [])) (x1 : Int32) (x2 : Int32) (x3 : Int32) (v_far : Int32) (v_heaps : Int32) (v_isMeasured : Int32) (v_wayOf : Nat → Int32) (H : Heap) (locs : List Loc) (ls : Array Slot), lv_has ls 6 [(0, .ref (g.2.1 50)), (1, .int x1), (2, .int x2), (3, .int x3)] → GW g s (mkS σ [(3214, v_far), (3215, v_heaps), (3212, v_isMeasured)] [] [(59, v_wayOf)] []) H locs → M_isOfSides_n110 k18 x1 x2 x3 v_far v_heaps v_isMeasured v_wayOf = some (r, w_far, w_heaps, w_isMeasured, w_wayOf) → Wg p l e 2 47 s m args below meth c g (some (.int r)) (mkS σ [(3214, w_far), (3215, w_heaps), (3212, w_isMeasured)] [] [(59, w_wayOf)] []) H locs (F0 m 110 ls []) := by
    intro k18 hk18 x1 x2 x3 v_far v_heaps v_isMeasured v_wayOf H locs ls hl hG h
    unfold M_isOfSides_n110 at h
    refine lv_iinc (v := (x3 + (1 : Int32))) (lv' := [(3, .int (x3 + (1 : Int32))), (0, .ref (g.2.1 50)), (1, .int x1), (2, .int x2)]) hx hb dX9_isOfSides_110 hl (k := 3) rfl (congrArg (fun z => x3 + z) (by decide)) (Nat.le_of_ble_eq_true rfl) rfl (fun ls hl => ?_)
    refine lv_goto (tgt := 18) hx hb dX9_isOfSides_113 (by decide) ?_
    exact hk18 x1 x2 (x3 + (1 : Int32)) v_far v_heaps v_isMeasured v_wayOf _ _ _ (lv_sub hl [1, 2, 3, 0] rfl) hG h
  have n29 : ∀ (k18 : Int32 → Int32 → Int32 → Int32 → Int32 → Int32 → (Nat → Int32) → Option (Int32 × Int32 × Int32 × Int32 × (Nat → Int32))) (hk18 : ∀ (x1 : Int32) (x2 : Int32) (x3 : Int32) (v_far : Int32) (v_heaps : Int32) (v_isMeasured : Int32) (v_wayOf : Nat → Int32) (H : Heap) (locs : List Loc) (ls : Array Slot), lv_has ls 6 [(0, .ref (g.2.1 50)), (1, .int x1), (2, .int x2), (3, .int x3)] → GW g s (mkS σ [(3214, v_far), (3215, v_heaps), (3212, v_isMeasured)] [] [(59, v_wayOf)] []) H locs → k18 x1 x2 x3 v_far v_heaps v_isMeasured v_wayOf = some (r, w_far, w_heaps, w_isMeasured, w_wayOf) → Wg p l e 2 47 s m args below meth c g (some (.int r)) (mkS σ [(3214, w_far), (3215, w_heaps), (3212, w_isMeasured)] [] [(59, w_wayOf)] []) H locs (F0 m 18 ls [])) (k29 : Int32 → Int32 → Int32 → Int32 → Int32 → Int32 → Int32 → (Nat → Int32) → Option (Int32 × Int32 × Int32 × Int32 × (Nat → Int32))) (hk29 : ∀ (x1 : Int32) (x2 : Int32) (x3 : Int32) (x4 : Int32) (v_far : Int32) (v_heaps : Int32) (v_isMeasured : Int32) (v_wayOf : Nat → Int32) (H : Heap) (locs : List Loc) (ls : Array Slot), lv_has ls 6 [(0, .ref (g.2.1 50)), (1, .int x1), (2, .int x2), (3, .int x3), (4, .int x4)] → GW g s (mkS σ [(3214, v_far), (3215, v_heaps), (3212, v_isMeasured)] [] [(59, v_wayOf)] []) H locs → k29 x1 x2 x3 x4 v_far v_heaps v_isMeasured v_wayOf = some (r, w_far, w_heaps, w_isMeasured, w_wayOf) → Wg p l e 2 47 s m args below meth c g (some (.int r)) (mkS σ [(3214, w_far), (3215, w_heaps), (3212, w_isMeasured)] [] [(59, w_wayOf)] []) H locs (F0 m 29 ls [])) (x1 : Int32) (x2 : Int32) (x3 : Int32) (x4 : Int32) (v_far : Int32) (v_heaps : Int32) (v_isMeasured : Int32) (v_wayOf : Nat → Int32) (H : Heap) (locs : List Loc) (ls : Array Slot), lv_has ls 6 [(0, .ref (g.2.1 50)), (1, .int x1), (2, .int x2), (3, .int x3), (4, .int x4)] → GW g s (mkS σ [(3214, v_far), (3215, v_heaps), (3212, v_isMeasured)] [] [(59, v_wayOf)] []) H locs → M_isOfSides_n29 k18 k29 (σ.1 3203) (σ.2.2.1 54) x1 x2 x3 x4 v_far v_heaps v_isMeasured v_wayOf = some (r, w_far, w_heaps, w_isMeasured, w_wayOf) → Wg p l e 2 47 s m args below meth c g (some (.int r)) (mkS σ [(3214, w_far), (3215, w_heaps), (3212, w_isMeasured)] [] [(59, w_wayOf)] []) H locs (F0 m 29 ls []) := by
    intro k18 hk18 k29 hk29 x1 x2 x3 x4 v_far v_heaps v_isMeasured v_wayOf H locs ls hl hG h
    unfold M_isOfSides_n29 at h
    refine lv_iload hx hb dX9_isOfSides_29 (lv_at hl 4 rfl) ?_
    refine lv_aload_n hx hb dX9_isOfSides_31 rfl (lv_at hl 0 rfl) ?_
    refine gx_get (v := .int (σ.1 3203)) (C := RX9) (T := TX9) (N := 44) hx hb hts mc_X9 hown hK hG (ga_50 g _) rfl 3 (by decide) hw0 rfl rfl dX9_isOfSides_32 ?_
    refine lv_icmp_ge (tgt := 110) hx hb dX9_isOfSides_35 (by decide) (fun c1 => ?_) (fun c1 => ?_)
    · have h := ite_t c1 h
      exact n110 k18 hk18 x1 x2 x3 v_far v_heaps v_isMeasured v_wayOf _ _ _ (lv_sub hl [0, 1, 2, 3] rfl) hG h
    · have h := ite_f c1 h
      refine lv_aload_n hx hb dX9_isOfSides_38 rfl (lv_at hl 0 rfl) ?_
      refine gx_get (v := .ref (g.2.1 54)) (C := RX9) (T := TX9) (N := 44) hx hb hts mc_X9 hown hK hG (ga_50 g _) rfl 4 (by decide) hw1 rfl rfl dX9_isOfSides_39 ?_
      refine lv_bipush (v := (32 : Int32)) hx hb dX9_isOfSides_42 (by decide) ?_
      refine lv_iload_n hx hb dX9_isOfSides_44 rfl (lv_at hl 2 rfl) ?_
      refine lv_imul hx hb dX9_isOfSides_45 ?_
      refine lv_iload_n hx hb dX9_isOfSides_46 rfl (lv_at hl 3 rfl) ?_
      refine lv_iadd hx hb dX9_isOfSides_47 ?_
      obtain ⟨hg2, h⟩ := gd_some h
      refine gx_zald (f := (σ.2.2.1 54)) hx hb hK hG (ga_54 g _) hg2 dX9_isOfSides_48 ?_
      refine lv_if_eq (tgt := 110) hx hb dX9_isOfSides_49 (by decide) (fun c3 => ?_) (fun c3 => ?_)
      · have h := ite_t c3 h
        exact n110 k18 hk18 x1 x2 x3 v_far v_heaps v_isMeasured v_wayOf _ _ _ (lv_sub hl [0, 1, 2, 3] rfl) hG h
      · have h := ite_f c3 h
        refine lv_aload_n hx hb dX9_isOfSides_52 rfl (lv_at hl 0 rfl) ?_
        refine gx_get (v := .ref (g.2.1 59)) (C := RX9) (T := TX9) (N := 44) hx hb hts mc_X9 hown hK hG (ga_50 g _) rfl 13 (by decide) hw2 rfl rfl dX9_isOfSides_53 ?_
        refine lv_bipush (v := (32 : Int32)) hx hb dX9_isOfSides_56 (by decide) ?_
        refine lv_iload hx hb dX9_isOfSides_58 (lv_at hl 4 rfl) ?_
        refine lv_imul hx hb dX9_isOfSides_60 ?_
        refine lv_iload_n hx hb dX9_isOfSides_61 rfl (lv_at hl 2 rfl) ?_
        refine lv_iadd hx hb dX9_isOfSides_62 ?_
        obtain ⟨hg4, h⟩ := gd_some h
        refine gx_iald (f := v_wayOf) hx hb hK hG (ga_59 g _) hg4 dX9_isOfSides_63 ?_
        refine lv_istore (lv' := [(5, .int (v_wayOf ((((32 : Int32) * x4) + x2).toNatClampNeg))), (0, .ref (g.2.1 50)), (1, .int x1), (2, .int x2), (3, .int x3), (4, .int x4)]) hx hb dX9_isOfSides_64 hl (Nat.le_of_ble_eq_true rfl) rfl (fun ls hl => ?_)
        refine lv_iload_n hx hb dX9_isOfSides_66 rfl (lv_at hl 2 rfl) ?_
        refine lv_if_eq (tgt := 102) hx hb dX9_isOfSides_67 (by decide) (fun c5 => ?_) (fun c5 => ?_)
        · have h := ite_t c5 h
          exact n102 k29 hk29 x2 x3 x4 v_far v_heaps v_isMeasured v_wayOf _ _ _ (lv_sub hl [1, 3, 4, 5] rfl) hG h
        · have h := ite_f c5 h
          refine lv_iload hx hb dX9_isOfSides_70 (lv_at hl 0 rfl) ?_
          refine lv_bipush (v := (99 : Int32)) hx hb dX9_isOfSides_72 (by decide) ?_
          refine lv_icmp_eq (tgt := 98) hx hb dX9_isOfSides_74 (by decide) (fun c6 => ?_) (fun c6 => ?_)
          · have h := ite_t c6 h
            exact n98 k29 hk29 x2 x3 x4 v_far v_heaps v_isMeasured v_wayOf _ _ _ (lv_sub hl [1, 3, 4, 5] rfl) hG h
          · have h := ite_f c6 h
            refine lv_iload hx hb dX9_isOfSides_77 (lv_at hl 0 rfl) ?_
            refine lv_iconst (v := (2 : Int32)) hx hb dX9_isOfSides_79 (by decide) ?_
            refine lv_irem hx hb dX9_isOfSides_80 (by decide) ?_
            refine lv_aload_n hx hb dX9_isOfSides_81 rfl (lv_at hl 1 rfl) ?_
            refine gx_get (v := .ref (g.2.1 59)) (C := RX9) (T := TX9) (N := 44) hx hb hts mc_X9 hown hK hG (ga_50 g _) rfl 13 (by decide) hw2 rfl rfl dX9_isOfSides_82 ?_
            refine lv_bipush (v := (32 : Int32)) hx hb dX9_isOfSides_85 (by decide) ?_
            refine lv_iload hx hb dX9_isOfSides_87 (lv_at hl 5 rfl) ?_
            refine lv_imul hx hb dX9_isOfSides_89 ?_
            refine lv_iload_n hx hb dX9_isOfSides_90 rfl (lv_at hl 4 rfl) ?_
            refine lv_iadd hx hb dX9_isOfSides_91 ?_
            obtain ⟨hg7, h⟩ := gd_some h
            refine gx_iald (f := v_wayOf) hx hb hK hG (ga_59 g _) hg7 dX9_isOfSides_92 ?_
            refine lv_iconst (v := (2 : Int32)) hx hb dX9_isOfSides_93 (by decide) ?_
            refine lv_irem hx hb dX9_isOfSides_94 (by decide) ?_
            refine lv_icmp_eq (tgt := 102) hx hb dX9_isOfSides_95 (by decide) (fun c8 => ?_) (fun c8 => ?_)
            · have h := ite_t c8 h
              exact n102 k29 hk29 x2 x3 x4 v_far v_heaps v_isMeasured v_wayOf _ _ _ (lv_sub hl [1, 3, 4, 5] rfl) hG h
            · have h := ite_f c8 h
              exact n98 k29 hk29 x2 x3 x4 v_far v_heaps v_isMeasured v_wayOf _ _ _ (lv_sub hl [1, 3, 4, 5] rfl) hG h
  have l29 : ∀ (k18 : Int32 → Int32 → Int32 → Int32 → Int32 → Int32 → (Nat → Int32) → Option (Int32 × Int32 × Int32 × Int32 × (Nat → Int32))) (hk18 : ∀ (x1 : Int32) (x2 : Int32) (x3 : Int32) (v_far : Int32) (v_heaps : Int32) (v_isMeasured : Int32) (v_wayOf : Nat → Int32) (H : Heap) (locs : List Loc) (ls : Array Slot), lv_has ls 6 [(0, .ref (g.2.1 50)), (1, .int x1), (2, .int x2), (3, .int x3)] → GW g s (mkS σ [(3214, v_far), (3215, v_heaps), (3212, v_isMeasured)] [] [(59, v_wayOf)] []) H locs → k18 x1 x2 x3 v_far v_heaps v_isMeasured v_wayOf = some (r, w_far, w_heaps, w_isMeasured, w_wayOf) → Wg p l e 2 47 s m args below meth c g (some (.int r)) (mkS σ [(3214, w_far), (3215, w_heaps), (3212, w_isMeasured)] [] [(59, w_wayOf)] []) H locs (F0 m 18 ls [])) (F : Nat) (x1 : Int32) (x2 : Int32) (x3 : Int32) (x4 : Int32) (v_far : Int32) (v_heaps : Int32) (v_isMeasured : Int32) (v_wayOf : Nat → Int32) (H : Heap) (locs : List Loc) (ls : Array Slot), lv_has ls 6 [(0, .ref (g.2.1 50)), (1, .int x1), (2, .int x2), (3, .int x3), (4, .int x4)] → GW g s (mkS σ [(3214, v_far), (3215, v_heaps), (3212, v_isMeasured)] [] [(59, v_wayOf)] []) H locs → M_isOfSides_l29 k18 (σ.1 3203) (σ.2.2.1 54) F x1 x2 x3 x4 v_far v_heaps v_isMeasured v_wayOf = some (r, w_far, w_heaps, w_isMeasured, w_wayOf) → Wg p l e 2 47 s m args below meth c g (some (.int r)) (mkS σ [(3214, w_far), (3215, w_heaps), (3212, w_isMeasured)] [] [(59, w_wayOf)] []) H locs (F0 m 29 ls []) := by
    intro k18 hk18 F
    induction F with
    | zero => intro x1 x2 x3 x4 v_far v_heaps v_isMeasured v_wayOf H locs ls hl hG h; exact no_some h
    | succ F ih => intro x1 x2 x3 x4 v_far v_heaps v_isMeasured v_wayOf H locs ls hl hG h; exact n29 k18 hk18 (fun x1 x2 x3 x4 v_far v_heaps v_isMeasured v_wayOf => M_isOfSides_l29 k18 (σ.1 3203) (σ.2.2.1 54) F x1 x2 x3 x4 v_far v_heaps v_isMeasured v_wayOf) ih x1 x2 x3 x4 v_far v_heaps v_isMeasured v_wayOf H locs ls hl hG h
  have n116 : ∀ (k8 : Int32 → Int32 → Int32 → Int32 → Int32 → (Nat → Int32) → Option (Int32 × Int32 × Int32 × Int32 × (Nat → Int32))) (hk8 : ∀ (x1 : Int32) (x2 : Int32) (v_far : Int32) (v_heaps : Int32) (v_isMeasured : Int32) (v_wayOf : Nat → Int32) (H : Heap) (locs : List Loc) (ls : Array Slot), lv_has ls 6 [(0, .ref (g.2.1 50)), (1, .int x1), (2, .int x2)] → GW g s (mkS σ [(3214, v_far), (3215, v_heaps), (3212, v_isMeasured)] [] [(59, v_wayOf)] []) H locs → k8 x1 x2 v_far v_heaps v_isMeasured v_wayOf = some (r, w_far, w_heaps, w_isMeasured, w_wayOf) → Wg p l e 2 47 s m args below meth c g (some (.int r)) (mkS σ [(3214, w_far), (3215, w_heaps), (3212, w_isMeasured)] [] [(59, w_wayOf)] []) H locs (F0 m 8 ls [])) (x1 : Int32) (x2 : Int32) (v_far : Int32) (v_heaps : Int32) (v_isMeasured : Int32) (v_wayOf : Nat → Int32) (H : Heap) (locs : List Loc) (ls : Array Slot), lv_has ls 6 [(0, .ref (g.2.1 50)), (1, .int x1), (2, .int x2)] → GW g s (mkS σ [(3214, v_far), (3215, v_heaps), (3212, v_isMeasured)] [] [(59, v_wayOf)] []) H locs → M_isOfSides_n116 k8 x1 x2 v_far v_heaps v_isMeasured v_wayOf = some (r, w_far, w_heaps, w_isMeasured, w_wayOf) → Wg p l e 2 47 s m args below meth c g (some (.int r)) (mkS σ [(3214, w_far), (3215, w_heaps), (3212, w_isMeasured)] [] [(59, w_wayOf)] []) H locs (F0 m 116 ls []) := by
    intro k8 hk8 x1 x2 v_far v_heaps v_isMeasured v_wayOf H locs ls hl hG h
    unfold M_isOfSides_n116 at h
    refine lv_iinc (v := (x2 + (1 : Int32))) (lv' := [(2, .int (x2 + (1 : Int32))), (0, .ref (g.2.1 50)), (1, .int x1)]) hx hb dX9_isOfSides_116 hl (k := 2) rfl (congrArg (fun z => x2 + z) (by decide)) (Nat.le_of_ble_eq_true rfl) rfl (fun ls hl => ?_)
    refine lv_goto (tgt := 8) hx hb dX9_isOfSides_119 (by decide) ?_
    exact hk8 x1 (x2 + (1 : Int32)) v_far v_heaps v_isMeasured v_wayOf _ _ _ (lv_sub hl [1, 2, 0] rfl) hG h
  have n18 : ∀ (k8 : Int32 → Int32 → Int32 → Int32 → Int32 → (Nat → Int32) → Option (Int32 × Int32 × Int32 × Int32 × (Nat → Int32))) (hk8 : ∀ (x1 : Int32) (x2 : Int32) (v_far : Int32) (v_heaps : Int32) (v_isMeasured : Int32) (v_wayOf : Nat → Int32) (H : Heap) (locs : List Loc) (ls : Array Slot), lv_has ls 6 [(0, .ref (g.2.1 50)), (1, .int x1), (2, .int x2)] → GW g s (mkS σ [(3214, v_far), (3215, v_heaps), (3212, v_isMeasured)] [] [(59, v_wayOf)] []) H locs → k8 x1 x2 v_far v_heaps v_isMeasured v_wayOf = some (r, w_far, w_heaps, w_isMeasured, w_wayOf) → Wg p l e 2 47 s m args below meth c g (some (.int r)) (mkS σ [(3214, w_far), (3215, w_heaps), (3212, w_isMeasured)] [] [(59, w_wayOf)] []) H locs (F0 m 8 ls [])) (k18 : Int32 → Int32 → Int32 → Int32 → Int32 → Int32 → (Nat → Int32) → Option (Int32 × Int32 × Int32 × Int32 × (Nat → Int32))) (hk18 : ∀ (x1 : Int32) (x2 : Int32) (x3 : Int32) (v_far : Int32) (v_heaps : Int32) (v_isMeasured : Int32) (v_wayOf : Nat → Int32) (H : Heap) (locs : List Loc) (ls : Array Slot), lv_has ls 6 [(0, .ref (g.2.1 50)), (1, .int x1), (2, .int x2), (3, .int x3)] → GW g s (mkS σ [(3214, v_far), (3215, v_heaps), (3212, v_isMeasured)] [] [(59, v_wayOf)] []) H locs → k18 x1 x2 x3 v_far v_heaps v_isMeasured v_wayOf = some (r, w_far, w_heaps, w_isMeasured, w_wayOf) → Wg p l e 2 47 s m args below meth c g (some (.int r)) (mkS σ [(3214, w_far), (3215, w_heaps), (3212, w_isMeasured)] [] [(59, w_wayOf)] []) H locs (F0 m 18 ls [])) (x1 : Int32) (x2 : Int32) (x3 : Int32) (v_far : Int32) (v_heaps : Int32) (v_isMeasured : Int32) (v_wayOf : Nat → Int32) (H : Heap) (locs : List Loc) (ls : Array Slot), lv_has ls 6 [(0, .ref (g.2.1 50)), (1, .int x1), (2, .int x2), (3, .int x3)] → GW g s (mkS σ [(3214, v_far), (3215, v_heaps), (3212, v_isMeasured)] [] [(59, v_wayOf)] []) H locs → M_isOfSides_n18 k8 k18 (σ.1 3203) (σ.2.2.1 54) x1 x2 x3 v_far v_heaps v_isMeasured v_wayOf = some (r, w_far, w_heaps, w_isMeasured, w_wayOf) → Wg p l e 2 47 s m args below meth c g (some (.int r)) (mkS σ [(3214, w_far), (3215, w_heaps), (3212, w_isMeasured)] [] [(59, w_wayOf)] []) H locs (F0 m 18 ls []) := by
    intro k8 hk8 k18 hk18 x1 x2 x3 v_far v_heaps v_isMeasured v_wayOf H locs ls hl hG h
    unfold M_isOfSides_n18 at h
    refine lv_iload_n hx hb dX9_isOfSides_18 rfl (lv_at hl 3 rfl) ?_
    refine lv_aload_n hx hb dX9_isOfSides_19 rfl (lv_at hl 0 rfl) ?_
    refine gx_get (v := .int (σ.1 3203)) (C := RX9) (T := TX9) (N := 44) hx hb hts mc_X9 hown hK hG (ga_50 g _) rfl 3 (by decide) hw0 rfl rfl dX9_isOfSides_20 ?_
    refine lv_icmp_ge (tgt := 116) hx hb dX9_isOfSides_23 (by decide) (fun c9 => ?_) (fun c9 => ?_)
    · have h := ite_t c9 h
      exact n116 k8 hk8 x1 x2 v_far v_heaps v_isMeasured v_wayOf _ _ _ (lv_sub hl [0, 1, 2] rfl) hG h
    · have h := ite_f c9 h
      refine lv_iconst (v := (0 : Int32)) hx hb dX9_isOfSides_26 (by decide) ?_
      refine lv_istore (lv' := [(4, .int (0 : Int32)), (0, .ref (g.2.1 50)), (1, .int x1), (2, .int x2), (3, .int x3)]) hx hb dX9_isOfSides_27 hl (Nat.le_of_ble_eq_true rfl) rfl (fun ls hl => ?_)
      exact l29 k18 hk18 FUEL x1 x2 x3 (0 : Int32) v_far v_heaps v_isMeasured v_wayOf _ _ _ (lv_sub hl [1, 2, 3, 4, 0] rfl) hG h
  have l18 : ∀ (k8 : Int32 → Int32 → Int32 → Int32 → Int32 → (Nat → Int32) → Option (Int32 × Int32 × Int32 × Int32 × (Nat → Int32))) (hk8 : ∀ (x1 : Int32) (x2 : Int32) (v_far : Int32) (v_heaps : Int32) (v_isMeasured : Int32) (v_wayOf : Nat → Int32) (H : Heap) (locs : List Loc) (ls : Array Slot), lv_has ls 6 [(0, .ref (g.2.1 50)), (1, .int x1), (2, .int x2)] → GW g s (mkS σ [(3214, v_far), (3215, v_heaps), (3212, v_isMeasured)] [] [(59, v_wayOf)] []) H locs → k8 x1 x2 v_far v_heaps v_isMeasured v_wayOf = some (r, w_far, w_heaps, w_isMeasured, w_wayOf) → Wg p l e 2 47 s m args below meth c g (some (.int r)) (mkS σ [(3214, w_far), (3215, w_heaps), (3212, w_isMeasured)] [] [(59, w_wayOf)] []) H locs (F0 m 8 ls [])) (F : Nat) (x1 : Int32) (x2 : Int32) (x3 : Int32) (v_far : Int32) (v_heaps : Int32) (v_isMeasured : Int32) (v_wayOf : Nat → Int32) (H : Heap) (locs : List Loc) (ls : Array Slot), lv_has ls 6 [(0, .ref (g.2.1 50)), (1, .int x1), (2, .int x2), (3, .int x3)] → GW g s (mkS σ [(3214, v_far), (3215, v_heaps), (3212, v_isMeasured)] [] [(59, v_wayOf)] []) H locs → M_isOfSides_l18 k8 (σ.1 3203) (σ.2.2.1 54) F x1 x2 x3 v_far v_heaps v_isMeasured v_wayOf = some (r, w_far, w_heaps, w_isMeasured, w_wayOf) → Wg p l e 2 47 s m args below meth c g (some (.int r)) (mkS σ [(3214, w_far), (3215, w_heaps), (3212, w_isMeasured)] [] [(59, w_wayOf)] []) H locs (F0 m 18 ls []) := by
    intro k8 hk8 F
    induction F with
    | zero => intro x1 x2 x3 v_far v_heaps v_isMeasured v_wayOf H locs ls hl hG h; exact no_some h
    | succ F ih => intro x1 x2 x3 v_far v_heaps v_isMeasured v_wayOf H locs ls hl hG h; exact n18 k8 hk8 (fun x1 x2 x3 v_far v_heaps v_isMeasured v_wayOf => M_isOfSides_l18 k8 (σ.1 3203) (σ.2.2.1 54) F x1 x2 x3 v_far v_heaps v_isMeasured v_wayOf) ih x1 x2 x3 v_far v_heaps v_isMeasured v_wayOf H locs ls hl hG h
  have n122 : ∀ (x1 : Int32) (v_far : Int32) (v_heaps : Int32) (v_isMeasured : Int32) (v_wayOf : Nat → Int32) (H : Heap) (locs : List Loc) (ls : Array Slot), lv_has ls 6 [(1, .int x1)] → GW g s (mkS σ [(3214, v_far), (3215, v_heaps), (3212, v_isMeasured)] [] [(59, v_wayOf)] []) H locs → M_isOfSides_n122 x1 v_far v_heaps v_isMeasured v_wayOf = some (r, w_far, w_heaps, w_isMeasured, w_wayOf) → Wg p l e 2 47 s m args below meth c g (some (.int r)) (mkS σ [(3214, w_far), (3215, w_heaps), (3212, w_isMeasured)] [] [(59, w_wayOf)] []) H locs (F0 m 122 ls []) := by
    intro x1 v_far v_heaps v_isMeasured v_wayOf H locs ls hl hG h
    unfold M_isOfSides_n122 at h
    refine lv_iload_n hx hb dX9_isOfSides_122 rfl (lv_at hl 0 rfl) ?_
    obtain ⟨hg10, h⟩ := gd_some h
    cases h
    exact gx_zret hx hb hr hlocks hg10 hG dX9_isOfSides_123
  have n8 : ∀ (k8 : Int32 → Int32 → Int32 → Int32 → Int32 → (Nat → Int32) → Option (Int32 × Int32 × Int32 × Int32 × (Nat → Int32))) (hk8 : ∀ (x1 : Int32) (x2 : Int32) (v_far : Int32) (v_heaps : Int32) (v_isMeasured : Int32) (v_wayOf : Nat → Int32) (H : Heap) (locs : List Loc) (ls : Array Slot), lv_has ls 6 [(0, .ref (g.2.1 50)), (1, .int x1), (2, .int x2)] → GW g s (mkS σ [(3214, v_far), (3215, v_heaps), (3212, v_isMeasured)] [] [(59, v_wayOf)] []) H locs → k8 x1 x2 v_far v_heaps v_isMeasured v_wayOf = some (r, w_far, w_heaps, w_isMeasured, w_wayOf) → Wg p l e 2 47 s m args below meth c g (some (.int r)) (mkS σ [(3214, w_far), (3215, w_heaps), (3212, w_isMeasured)] [] [(59, w_wayOf)] []) H locs (F0 m 8 ls [])) (x1 : Int32) (x2 : Int32) (v_far : Int32) (v_heaps : Int32) (v_isMeasured : Int32) (v_wayOf : Nat → Int32) (H : Heap) (locs : List Loc) (ls : Array Slot), lv_has ls 6 [(0, .ref (g.2.1 50)), (1, .int x1), (2, .int x2)] → GW g s (mkS σ [(3214, v_far), (3215, v_heaps), (3212, v_isMeasured)] [] [(59, v_wayOf)] []) H locs → M_isOfSides_n8 k8 (σ.1 3203) (σ.2.2.1 54) x1 x2 v_far v_heaps v_isMeasured v_wayOf = some (r, w_far, w_heaps, w_isMeasured, w_wayOf) → Wg p l e 2 47 s m args below meth c g (some (.int r)) (mkS σ [(3214, w_far), (3215, w_heaps), (3212, w_isMeasured)] [] [(59, w_wayOf)] []) H locs (F0 m 8 ls []) := by
    intro k8 hk8 x1 x2 v_far v_heaps v_isMeasured v_wayOf H locs ls hl hG h
    unfold M_isOfSides_n8 at h
    refine lv_iload_n hx hb dX9_isOfSides_8 rfl (lv_at hl 2 rfl) ?_
    refine lv_aload_n hx hb dX9_isOfSides_9 rfl (lv_at hl 0 rfl) ?_
    refine gx_get (v := .int (σ.1 3203)) (C := RX9) (T := TX9) (N := 44) hx hb hts mc_X9 hown hK hG (ga_50 g _) rfl 3 (by decide) hw0 rfl rfl dX9_isOfSides_10 ?_
    refine lv_icmp_ge (tgt := 122) hx hb dX9_isOfSides_13 (by decide) (fun c11 => ?_) (fun c11 => ?_)
    · have h := ite_t c11 h
      exact n122 x1 v_far v_heaps v_isMeasured v_wayOf _ _ _ (lv_sub hl [1] rfl) hG h
    · have h := ite_f c11 h
      refine lv_iconst (v := (0 : Int32)) hx hb dX9_isOfSides_16 (by decide) ?_
      refine lv_istore_n (lv' := [(3, .int (0 : Int32)), (0, .ref (g.2.1 50)), (1, .int x1), (2, .int x2)]) hx hb dX9_isOfSides_17 rfl hl (Nat.le_of_ble_eq_true rfl) rfl (fun ls hl => ?_)
      exact l18 k8 hk8 FUEL x1 x2 (0 : Int32) v_far v_heaps v_isMeasured v_wayOf _ _ _ (lv_sub hl [1, 2, 3, 0] rfl) hG h
  have l8 : ∀  (F : Nat) (x1 : Int32) (x2 : Int32) (v_far : Int32) (v_heaps : Int32) (v_isMeasured : Int32) (v_wayOf : Nat → Int32) (H : Heap) (locs : List Loc) (ls : Array Slot), lv_has ls 6 [(0, .ref (g.2.1 50)), (1, .int x1), (2, .int x2)] → GW g s (mkS σ [(3214, v_far), (3215, v_heaps), (3212, v_isMeasured)] [] [(59, v_wayOf)] []) H locs → M_isOfSides_l8 (σ.1 3203) (σ.2.2.1 54) F x1 x2 v_far v_heaps v_isMeasured v_wayOf = some (r, w_far, w_heaps, w_isMeasured, w_wayOf) → Wg p l e 2 47 s m args below meth c g (some (.int r)) (mkS σ [(3214, w_far), (3215, w_heaps), (3212, w_isMeasured)] [] [(59, w_wayOf)] []) H locs (F0 m 8 ls []) := by
    intro F
    induction F with
    | zero => intro x1 x2 v_far v_heaps v_isMeasured v_wayOf H locs ls hl hG h; exact no_some h
    | succ F ih => intro x1 x2 v_far v_heaps v_isMeasured v_wayOf H locs ls hl hG h; exact n8 (fun x1 x2 v_far v_heaps v_isMeasured v_wayOf => M_isOfSides_l8 (σ.1 3203) (σ.2.2.1 54) F x1 x2 v_far v_heaps v_isMeasured v_wayOf) ih x1 x2 v_far v_heaps v_isMeasured v_wayOf H locs ls hl hG h
  refine lv_aload_n hx hb dX9_isOfSides_0 rfl (lv_at hl 0 rfl) ?_
  obtain ⟨z12, hc13, h⟩ := bnd_some h
  refine gx_cV (σ' := (mkS σ [(3214, z12.1), (3215, z12.2.1), (3212, z12.2.2.1)] [] [(59, z12.2.2.2)] [])) (r := none) (rest := []) (As := []) hS9 (c_M_measure l g (mkS σ [(3214, (σ.1 3214)), (3215, (σ.1 3215)), (3212, (σ.1 3212))] [] [(59, (σ.2.2.1 59))] []) z12.1 z12.2.1 z12.2.2.1 z12.2.2.2 hc13) (mk_mk rfl rfl rfl rfl) (cwV 0 hts (gz_V mw_5_117 mw_5_119 ms_3_9 mw_1_11 mw_5_120) rfl rfl rfl hdV_X9_measure ⟨Nat.le_of_ble_eq_true rfl, Nat.le_of_ble_eq_true rfl⟩) hK hG (ga_50 g _) rfl rfl rfl hl.1 rfl (Nat.le_of_ble_eq_true rfl) dX9_isOfSides_1 (fun H locs hG => ?_)
  refine W.eq (g2 := F0 m 4 ls []) rfl ?_
  refine lv_iconst (v := (1 : Int32)) hx hb dX9_isOfSides_4 (by decide) ?_
  refine lv_istore_n (lv' := [(1, .int (1 : Int32)), (0, .ref (g.2.1 50))]) hx hb dX9_isOfSides_5 rfl hl (Nat.le_of_ble_eq_true rfl) rfl (fun ls hl => ?_)
  refine lv_iconst (v := (0 : Int32)) hx hb dX9_isOfSides_6 (by decide) ?_
  refine lv_istore_n (lv' := [(2, .int (0 : Int32)), (1, .int (1 : Int32)), (0, .ref (g.2.1 50))]) hx hb dX9_isOfSides_7 rfl hl (Nat.le_of_ble_eq_true rfl) rfl (fun ls hl => ?_)
  exact l8 FUEL (1 : Int32) (0 : Int32) z12.1 z12.2.1 z12.2.2.1 z12.2.2.2 _ _ _ (lv_sub hl [2, 1, 0] rfl) hG h

set_option maxHeartbeats 4000000 in
set_option maxRecDepth 100000 in
theorem c_M_half (l : Launch) (g : GC) (σ : St) (r : Int32) (w_areKindsFound : Int32) (w_far : Int32) (w_heaps : Int32) (w_isMeasured : Int32) (w_posts : Int32) (w_newRoad : Nat → Int32) (w_numberOf : Nat → Int32) (w_road : Nat → Int32) (w_wayOf : Nat → Int32) (h : M_half (σ.1 3238) (σ.1 3214) (σ.1 3215) (σ.1 3212) (σ.1 3203) (σ.2.2.1 70) (σ.2.2.1 71) (σ.2.2.1 54) (σ.2.2.1 59) = some (r, w_areKindsFound, w_far, w_heaps, w_isMeasured, w_posts, w_newRoad, w_numberOf, w_road, w_wayOf)) : Cn l g yX9_half (Cond.code yX9_half cX9_half 4 (some .int) :: wG) 3 72 [.ref (g.2.1 50)] σ (some (.int r)) (mkS σ [(3238, w_areKindsFound), (3214, w_far), (3215, w_heaps), (3212, w_isMeasured), (3203, w_posts)] [] [(70, w_newRoad), (71, w_numberOf), (54, w_road), (59, w_wayOf)] []) := by
  unfold Cn
  refine Met.ofW (cc := cX9_half) (maxL := 4) (ret := (some .int)) (by decide) rfl ?_
  intro p e s m args below meth c s₁ B hml hv
  obtain ⟨hargs, hP0, hK⟩ := hv
  have hx := B.exec
  have hb := B.bytes
  have hr := B.returns
  have hts : ∀ w ∈ wG, w.before args s = true := fun w h => atoms_spec (ws := (Cond.code yX9_half cX9_half 4 (some .int) :: wG)) B.pre w (List.mem_cons_of_mem _ h)
  have hown : s.vm.findClass RX9 = some m.cls := findClass_of_methodNamed B.named
  have hlocks := B.notSynchronized
  have hS9 : CallFix p m c cX9_half 4 s args wG RX9 := ⟨hx, hb, hml, hown, hts⟩
  have hw0 := hts _ mw_4_152
  have hw1 := hts _ mw_4_142
  have hw2 := hts _ mw_4_169
  have hw3 := hts _ mw_4_168
  have hf9 : entryFrame m args 4 = _ := (congrArg (fun a => entryFrame m a 4) hargs).trans (lg_entry_eq m [.ref (g.2.1 50)] 4)
  show Wg p l e 3 72 s m args below meth c g (some (.int r)) (mkS σ [(3238, w_areKindsFound), (3214, w_far), (3215, w_heaps), (3212, w_isMeasured), (3203, w_posts)] [] [(70, w_newRoad), (71, w_numberOf), (54, w_road), (59, w_wayOf)] []) s.heap [] (entryFrame m args 4)
  rw [hf9]
  have hl := lv_entry ([.ref (g.2.1 50)]) (n := 4) (Nat.le_of_ble_eq_true rfl)
  generalize (lg_sl ([.ref (g.2.1 50)]) ++ List.replicate (4 - (lg_sl ([.ref (g.2.1 50)])).length) Slot.unset).toArray = ls at hl ⊢
  have hl : lv_has ls 4 [(0, .ref (g.2.1 50))] := hl
  have hG : GW g s σ s.heap [] := ⟨hP0, va_S.rf⟩
  have hG : GW g s (mkS σ [(3238, (σ.1 3238)), (3214, (σ.1 3214)), (3215, (σ.1 3215)), (3212, (σ.1 3212)), (3203, (σ.1 3203))] [] [(70, (σ.2.2.1 70)), (71, (σ.2.2.1 71)), (54, (σ.2.2.1 54)), (59, (σ.2.2.1 59))] []) s.heap [] := GW_self [3238, 3214, 3215, 3212, 3203] [] [70, 71, 54, 59] [] hG
  unfold M_half at h
  have n14 : ∀ (v_areKindsFound : Int32) (v_far : Int32) (v_heaps : Int32) (v_isMeasured : Int32) (v_posts : Int32) (v_newRoad : Nat → Int32) (v_numberOf : Nat → Int32) (v_road : Nat → Int32) (v_wayOf : Nat → Int32) (H : Heap) (locs : List Loc) (ls : Array Slot), lv_has ls 4 [] → GW g s (mkS σ [(3238, v_areKindsFound), (3214, v_far), (3215, v_heaps), (3212, v_isMeasured), (3203, v_posts)] [] [(70, v_newRoad), (71, v_numberOf), (54, v_road), (59, v_wayOf)] []) H locs → M_half_n14 v_areKindsFound v_far v_heaps v_isMeasured v_posts v_newRoad v_numberOf v_road v_wayOf = some (r, w_areKindsFound, w_far, w_heaps, w_isMeasured, w_posts, w_newRoad, w_numberOf, w_road, w_wayOf) → Wg p l e 3 72 s m args below meth c g (some (.int r)) (mkS σ [(3238, w_areKindsFound), (3214, w_far), (3215, w_heaps), (3212, w_isMeasured), (3203, w_posts)] [] [(70, w_newRoad), (71, w_numberOf), (54, w_road), (59, w_wayOf)] []) H locs (F0 m 14 ls []) := by
    intro v_areKindsFound v_far v_heaps v_isMeasured v_posts v_newRoad v_numberOf v_road v_wayOf H locs ls hl hG h
    unfold M_half_n14 at h
    refine lv_bipush (v := (-5 : Int32)) hx hb dX9_half_14 (by decide) ?_
    cases h
    exact gx_iret hx hb hr hlocks hG dX9_half_16
  have n68 : ∀ (k21 : Int32 → Int32 → Int32 → Int32 → Int32 → Int32 → Int32 → (Nat → Int32) → (Nat → Int32) → (Nat → Int32) → (Nat → Int32) → Option (Int32 × Int32 × Int32 × Int32 × Int32 × Int32 × (Nat → Int32) × (Nat → Int32) × (Nat → Int32) × (Nat → Int32))) (hk21 : ∀ (x1 : Int32) (x2 : Int32) (v_areKindsFound : Int32) (v_far : Int32) (v_heaps : Int32) (v_isMeasured : Int32) (v_posts : Int32) (v_newRoad : Nat → Int32) (v_numberOf : Nat → Int32) (v_road : Nat → Int32) (v_wayOf : Nat → Int32) (H : Heap) (locs : List Loc) (ls : Array Slot), lv_has ls 4 [(0, .ref (g.2.1 50)), (1, .int x1), (2, .int x2)] → GW g s (mkS σ [(3238, v_areKindsFound), (3214, v_far), (3215, v_heaps), (3212, v_isMeasured), (3203, v_posts)] [] [(70, v_newRoad), (71, v_numberOf), (54, v_road), (59, v_wayOf)] []) H locs → k21 x1 x2 v_areKindsFound v_far v_heaps v_isMeasured v_posts v_newRoad v_numberOf v_road v_wayOf = some (r, w_areKindsFound, w_far, w_heaps, w_isMeasured, w_posts, w_newRoad, w_numberOf, w_road, w_wayOf) → Wg p l e 3 72 s m args below meth c g (some (.int r)) (mkS σ [(3238, w_areKindsFound), (3214, w_far), (3215, w_heaps), (3212, w_isMeasured), (3203, w_posts)] [] [(70, w_newRoad), (71, w_numberOf), (54, w_road), (59, w_wayOf)] []) H locs (F0 m 21 ls [])) (x2 : Int32) (t0 : Int32) (t1 : Int32) (v_areKindsFound : Int32) (v_far : Int32) (v_heaps : Int32) (v_isMeasured : Int32) (v_posts : Int32) (v_newRoad : Nat → Int32) (v_numberOf : Nat → Int32) (v_road : Nat → Int32) (v_wayOf : Nat → Int32) (H : Heap) (locs : List Loc) (ls : Array Slot), lv_has ls 4 [(0, .ref (g.2.1 50)), (2, .int x2)] → GW g s (mkS σ [(3238, v_areKindsFound), (3214, v_far), (3215, v_heaps), (3212, v_isMeasured), (3203, v_posts)] [] [(70, v_newRoad), (71, v_numberOf), (54, v_road), (59, v_wayOf)] []) H locs → M_half_n68 k21 x2 t0 t1 v_areKindsFound v_far v_heaps v_isMeasured v_posts v_newRoad v_numberOf v_road v_wayOf = some (r, w_areKindsFound, w_far, w_heaps, w_isMeasured, w_posts, w_newRoad, w_numberOf, w_road, w_wayOf) → Wg p l e 3 72 s m args below meth c g (some (.int r)) (mkS σ [(3238, w_areKindsFound), (3214, w_far), (3215, w_heaps), (3212, w_isMeasured), (3203, w_posts)] [] [(70, w_newRoad), (71, w_numberOf), (54, w_road), (59, w_wayOf)] []) H locs (F0 m 68 ls [.int t1, .int t0]) := by
    intro k21 hk21 x2 t0 t1 v_areKindsFound v_far v_heaps v_isMeasured v_posts v_newRoad v_numberOf v_road v_wayOf H locs ls hl hG h
    unfold M_half_n68 at h
    refine lv_iadd hx hb dX9_half_68 ?_
    refine lv_istore_n (lv' := [(1, .int (t0 + t1)), (0, .ref (g.2.1 50)), (2, .int x2)]) hx hb dX9_half_69 rfl hl (Nat.le_of_ble_eq_true rfl) rfl (fun ls hl => ?_)
    refine lv_iinc (v := (x2 + (1 : Int32))) (lv' := [(2, .int (x2 + (1 : Int32))), (1, .int (t0 + t1)), (0, .ref (g.2.1 50))]) hx hb dX9_half_70 hl (k := 2) rfl (congrArg (fun z => x2 + z) (by decide)) (Nat.le_of_ble_eq_true rfl) rfl (fun ls hl => ?_)
    refine lv_goto (tgt := 21) hx hb dX9_half_73 (by decide) ?_
    exact hk21 (t0 + t1) (x2 + (1 : Int32)) v_areKindsFound v_far v_heaps v_isMeasured v_posts v_newRoad v_numberOf v_road v_wayOf _ _ _ (lv_sub hl [2, 1, 0] rfl) hG h
  have n50 : ∀ (k21 : Int32 → Int32 → Int32 → Int32 → Int32 → Int32 → Int32 → (Nat → Int32) → (Nat → Int32) → (Nat → Int32) → (Nat → Int32) → Option (Int32 × Int32 × Int32 × Int32 × Int32 × Int32 × (Nat → Int32) × (Nat → Int32) × (Nat → Int32) × (Nat → Int32))) (hk21 : ∀ (x1 : Int32) (x2 : Int32) (v_areKindsFound : Int32) (v_far : Int32) (v_heaps : Int32) (v_isMeasured : Int32) (v_posts : Int32) (v_newRoad : Nat → Int32) (v_numberOf : Nat → Int32) (v_road : Nat → Int32) (v_wayOf : Nat → Int32) (H : Heap) (locs : List Loc) (ls : Array Slot), lv_has ls 4 [(0, .ref (g.2.1 50)), (1, .int x1), (2, .int x2)] → GW g s (mkS σ [(3238, v_areKindsFound), (3214, v_far), (3215, v_heaps), (3212, v_isMeasured), (3203, v_posts)] [] [(70, v_newRoad), (71, v_numberOf), (54, v_road), (59, v_wayOf)] []) H locs → k21 x1 x2 v_areKindsFound v_far v_heaps v_isMeasured v_posts v_newRoad v_numberOf v_road v_wayOf = some (r, w_areKindsFound, w_far, w_heaps, w_isMeasured, w_posts, w_newRoad, w_numberOf, w_road, w_wayOf) → Wg p l e 3 72 s m args below meth c g (some (.int r)) (mkS σ [(3238, w_areKindsFound), (3214, w_far), (3215, w_heaps), (3212, w_isMeasured), (3203, w_posts)] [] [(70, w_newRoad), (71, w_numberOf), (54, w_road), (59, w_wayOf)] []) H locs (F0 m 21 ls [])) (x1 : Int32) (x2 : Int32) (t1 : Int32) (t2 : Int32) (v_areKindsFound : Int32) (v_far : Int32) (v_heaps : Int32) (v_isMeasured : Int32) (v_posts : Int32) (v_newRoad : Nat → Int32) (v_numberOf : Nat → Int32) (v_road : Nat → Int32) (v_wayOf : Nat → Int32) (H : Heap) (locs : List Loc) (ls : Array Slot), lv_has ls 4 [(0, .ref (g.2.1 50)), (1, .int x1), (2, .int x2)] → GW g s (mkS σ [(3238, v_areKindsFound), (3214, v_far), (3215, v_heaps), (3212, v_isMeasured), (3203, v_posts)] [] [(70, v_newRoad), (71, v_numberOf), (54, v_road), (59, v_wayOf)] []) H locs → M_half_n50 k21 x1 x2 t1 t2 v_areKindsFound v_far v_heaps v_isMeasured v_posts v_newRoad v_numberOf v_road v_wayOf = some (r, w_areKindsFound, w_far, w_heaps, w_isMeasured, w_posts, w_newRoad, w_numberOf, w_road, w_wayOf) → Wg p l e 3 72 s m args below meth c g (some (.int r)) (mkS σ [(3238, w_areKindsFound), (3214, w_far), (3215, w_heaps), (3212, w_isMeasured), (3203, w_posts)] [] [(70, w_newRoad), (71, w_numberOf), (54, w_road), (59, w_wayOf)] []) H locs (F0 m 50 ls [.int t2, .int t1, .ref (g.2.1 71)]) := by
    intro k21 hk21 x1 x2 t1 t2 v_areKindsFound v_far v_heaps v_isMeasured v_posts v_newRoad v_numberOf v_road v_wayOf H locs ls hl hG h
    unfold M_half_n50 at h
    obtain ⟨hg1, h⟩ := gd_some h
    refine gx_iast (σ' := (mkS σ [(3238, v_areKindsFound), (3214, v_far), (3215, v_heaps), (3212, v_isMeasured), (3203, v_posts)] [] [(70, v_newRoad), (71, (upd v_numberOf (t1.toNatClampNeg) t2)), (54, v_road), (59, v_wayOf)] [])) (f := v_numberOf) hx hb hK hG (ga_71 g _) hg1 ((gs_71 g _ _).trans (congrArg (g_cells g) (mk_c 1 rfl rfl))) dX9_half_50 (fun H locs hG => ?_)
    refine lv_iload_n hx hb dX9_half_51 rfl (lv_at hl 1 rfl) ?_
    refine lv_aload_n hx hb dX9_half_52 rfl (lv_at hl 0 rfl) ?_
    refine gx_get (v := .ref (g.2.1 59)) (C := RX9) (T := TX9) (N := 44) hx hb hts mc_X9 hown hK hG (ga_50 g _) rfl 13 (by decide) hw0 rfl rfl dX9_half_53 ?_
    refine lv_iload_n hx hb dX9_half_56 rfl (lv_at hl 2 rfl) ?_
    obtain ⟨hg2, h⟩ := gd_some h
    refine gx_iald (f := v_wayOf) hx hb hK hG (ga_59 g _) hg2 dX9_half_57 ?_
    refine lv_iconst (v := (2 : Int32)) hx hb dX9_half_58 (by decide) ?_
    refine lv_irem hx hb dX9_half_59 (by decide) ?_
    refine lv_if_ne (tgt := 67) hx hb dX9_half_60 (by decide) (fun c3 => ?_) (fun c3 => ?_)
    · have h := ite_f c3 h
      refine lv_iconst (v := (0 : Int32)) hx hb dX9_half_67 (by decide) ?_
      exact n68 k21 hk21 x2 x1 (0 : Int32) v_areKindsFound v_far v_heaps v_isMeasured v_posts v_newRoad (upd v_numberOf (t1.toNatClampNeg) t2) v_road v_wayOf _ _ _ (lv_sub hl [0, 2] rfl) hG h
    · have h := ite_t c3 h
      refine lv_iconst (v := (1 : Int32)) hx hb dX9_half_63 (by decide) ?_
      refine lv_goto (tgt := 68) hx hb dX9_half_64 (by decide) ?_
      exact n68 k21 hk21 x2 x1 (1 : Int32) v_areKindsFound v_far v_heaps v_isMeasured v_posts v_newRoad (upd v_numberOf (t1.toNatClampNeg) t2) v_road v_wayOf _ _ _ (lv_sub hl [0, 2] rfl) hG h
  have n155 : ∀ (k92 : Int32 → Int32 → Int32 → Int32 → Int32 → Int32 → Int32 → Int32 → (Nat → Int32) → (Nat → Int32) → (Nat → Int32) → (Nat → Int32) → Option (Int32 × Int32 × Int32 × Int32 × Int32 × Int32 × (Nat → Int32) × (Nat → Int32) × (Nat → Int32) × (Nat → Int32))) (hk92 : ∀ (x1 : Int32) (x2 : Int32) (x3 : Int32) (v_areKindsFound : Int32) (v_far : Int32) (v_heaps : Int32) (v_isMeasured : Int32) (v_posts : Int32) (v_newRoad : Nat → Int32) (v_numberOf : Nat → Int32) (v_road : Nat → Int32) (v_wayOf : Nat → Int32) (H : Heap) (locs : List Loc) (ls : Array Slot), lv_has ls 4 [(0, .ref (g.2.1 50)), (1, .int x1), (2, .int x2), (3, .int x3)] → GW g s (mkS σ [(3238, v_areKindsFound), (3214, v_far), (3215, v_heaps), (3212, v_isMeasured), (3203, v_posts)] [] [(70, v_newRoad), (71, v_numberOf), (54, v_road), (59, v_wayOf)] []) H locs → k92 x1 x2 x3 v_areKindsFound v_far v_heaps v_isMeasured v_posts v_newRoad v_numberOf v_road v_wayOf = some (r, w_areKindsFound, w_far, w_heaps, w_isMeasured, w_posts, w_newRoad, w_numberOf, w_road, w_wayOf) → Wg p l e 3 72 s m args below meth c g (some (.int r)) (mkS σ [(3238, w_areKindsFound), (3214, w_far), (3215, w_heaps), (3212, w_isMeasured), (3203, w_posts)] [] [(70, w_newRoad), (71, w_numberOf), (54, w_road), (59, w_wayOf)] []) H locs (F0 m 92 ls [])) (x1 : Int32) (x2 : Int32) (x3 : Int32) (v_areKindsFound : Int32) (v_far : Int32) (v_heaps : Int32) (v_isMeasured : Int32) (v_posts : Int32) (v_newRoad : Nat → Int32) (v_numberOf : Nat → Int32) (v_road : Nat → Int32) (v_wayOf : Nat → Int32) (H : Heap) (locs : List Loc) (ls : Array Slot), lv_has ls 4 [(0, .ref (g.2.1 50)), (1, .int x1), (2, .int x2), (3, .int x3)] → GW g s (mkS σ [(3238, v_areKindsFound), (3214, v_far), (3215, v_heaps), (3212, v_isMeasured), (3203, v_posts)] [] [(70, v_newRoad), (71, v_numberOf), (54, v_road), (59, v_wayOf)] []) H locs → M_half_n155 k92 x1 x2 x3 v_areKindsFound v_far v_heaps v_isMeasured v_posts v_newRoad v_numberOf v_road v_wayOf = some (r, w_areKindsFound, w_far, w_heaps, w_isMeasured, w_posts, w_newRoad, w_numberOf, w_road, w_wayOf) → Wg p l e 3 72 s m args below meth c g (some (.int r)) (mkS σ [(3238, w_areKindsFound), (3214, w_far), (3215, w_heaps), (3212, w_isMeasured), (3203, w_posts)] [] [(70, w_newRoad), (71, w_numberOf), (54, w_road), (59, w_wayOf)] []) H locs (F0 m 155 ls []) := by
    intro k92 hk92 x1 x2 x3 v_areKindsFound v_far v_heaps v_isMeasured v_posts v_newRoad v_numberOf v_road v_wayOf H locs ls hl hG h
    unfold M_half_n155 at h
    refine lv_iinc (v := (x3 + (1 : Int32))) (lv' := [(3, .int (x3 + (1 : Int32))), (0, .ref (g.2.1 50)), (1, .int x1), (2, .int x2)]) hx hb dX9_half_155 hl (k := 3) rfl (congrArg (fun z => x3 + z) (by decide)) (Nat.le_of_ble_eq_true rfl) rfl (fun ls hl => ?_)
    refine lv_goto (tgt := 92) hx hb dX9_half_158 (by decide) ?_
    exact hk92 x1 x2 (x3 + (1 : Int32)) v_areKindsFound v_far v_heaps v_isMeasured v_posts v_newRoad v_numberOf v_road v_wayOf _ _ _ (lv_sub hl [1, 2, 3, 0] rfl) hG h
  have n161 : ∀ (k82 : Int32 → Int32 → Int32 → Int32 → Int32 → Int32 → Int32 → (Nat → Int32) → (Nat → Int32) → (Nat → Int32) → (Nat → Int32) → Option (Int32 × Int32 × Int32 × Int32 × Int32 × Int32 × (Nat → Int32) × (Nat → Int32) × (Nat → Int32) × (Nat → Int32))) (hk82 : ∀ (x1 : Int32) (x2 : Int32) (v_areKindsFound : Int32) (v_far : Int32) (v_heaps : Int32) (v_isMeasured : Int32) (v_posts : Int32) (v_newRoad : Nat → Int32) (v_numberOf : Nat → Int32) (v_road : Nat → Int32) (v_wayOf : Nat → Int32) (H : Heap) (locs : List Loc) (ls : Array Slot), lv_has ls 4 [(0, .ref (g.2.1 50)), (1, .int x1), (2, .int x2)] → GW g s (mkS σ [(3238, v_areKindsFound), (3214, v_far), (3215, v_heaps), (3212, v_isMeasured), (3203, v_posts)] [] [(70, v_newRoad), (71, v_numberOf), (54, v_road), (59, v_wayOf)] []) H locs → k82 x1 x2 v_areKindsFound v_far v_heaps v_isMeasured v_posts v_newRoad v_numberOf v_road v_wayOf = some (r, w_areKindsFound, w_far, w_heaps, w_isMeasured, w_posts, w_newRoad, w_numberOf, w_road, w_wayOf) → Wg p l e 3 72 s m args below meth c g (some (.int r)) (mkS σ [(3238, w_areKindsFound), (3214, w_far), (3215, w_heaps), (3212, w_isMeasured), (3203, w_posts)] [] [(70, w_newRoad), (71, w_numberOf), (54, w_road), (59, w_wayOf)] []) H locs (F0 m 82 ls [])) (x1 : Int32) (x2 : Int32) (v_areKindsFound : Int32) (v_far : Int32) (v_heaps : Int32) (v_isMeasured : Int32) (v_posts : Int32) (v_newRoad : Nat → Int32) (v_numberOf : Nat → Int32) (v_road : Nat → Int32) (v_wayOf : Nat → Int32) (H : Heap) (locs : List Loc) (ls : Array Slot), lv_has ls 4 [(0, .ref (g.2.1 50)), (1, .int x1), (2, .int x2)] → GW g s (mkS σ [(3238, v_areKindsFound), (3214, v_far), (3215, v_heaps), (3212, v_isMeasured), (3203, v_posts)] [] [(70, v_newRoad), (71, v_numberOf), (54, v_road), (59, v_wayOf)] []) H locs → M_half_n161 k82 x1 x2 v_areKindsFound v_far v_heaps v_isMeasured v_posts v_newRoad v_numberOf v_road v_wayOf = some (r, w_areKindsFound, w_far, w_heaps, w_isMeasured, w_posts, w_newRoad, w_numberOf, w_road, w_wayOf) → Wg p l e 3 72 s m args below meth c g (some (.int r)) (mkS σ [(3238, w_areKindsFound), (3214, w_far), (3215, w_heaps), (3212, w_isMeasured), (3203, w_posts)] [] [(70, w_newRoad), (71, w_numberOf), (54, w_road), (59, w_wayOf)] []) H locs (F0 m 161 ls []) := by
    intro k82 hk82 x1 x2 v_areKindsFound v_far v_heaps v_isMeasured v_posts v_newRoad v_numberOf v_road v_wayOf H locs ls hl hG h
    unfold M_half_n161 at h
    refine lv_iinc (v := (x2 + (1 : Int32))) (lv' := [(2, .int (x2 + (1 : Int32))), (0, .ref (g.2.1 50)), (1, .int x1)]) hx hb dX9_half_161 hl (k := 2) rfl (congrArg (fun z => x2 + z) (by decide)) (Nat.le_of_ble_eq_true rfl) rfl (fun ls hl => ?_)
    refine lv_goto (tgt := 82) hx hb dX9_half_164 (by decide) ?_
    exact hk82 x1 (x2 + (1 : Int32)) v_areKindsFound v_far v_heaps v_isMeasured v_posts v_newRoad v_numberOf v_road v_wayOf _ _ _ (lv_sub hl [1, 2, 0] rfl) hG h
  have n92 : ∀ (k82 : Int32 → Int32 → Int32 → Int32 → Int32 → Int32 → Int32 → (Nat → Int32) → (Nat → Int32) → (Nat → Int32) → (Nat → Int32) → Option (Int32 × Int32 × Int32 × Int32 × Int32 × Int32 × (Nat → Int32) × (Nat → Int32) × (Nat → Int32) × (Nat → Int32))) (hk82 : ∀ (x1 : Int32) (x2 : Int32) (v_areKindsFound : Int32) (v_far : Int32) (v_heaps : Int32) (v_isMeasured : Int32) (v_posts : Int32) (v_newRoad : Nat → Int32) (v_numberOf : Nat → Int32) (v_road : Nat → Int32) (v_wayOf : Nat → Int32) (H : Heap) (locs : List Loc) (ls : Array Slot), lv_has ls 4 [(0, .ref (g.2.1 50)), (1, .int x1), (2, .int x2)] → GW g s (mkS σ [(3238, v_areKindsFound), (3214, v_far), (3215, v_heaps), (3212, v_isMeasured), (3203, v_posts)] [] [(70, v_newRoad), (71, v_numberOf), (54, v_road), (59, v_wayOf)] []) H locs → k82 x1 x2 v_areKindsFound v_far v_heaps v_isMeasured v_posts v_newRoad v_numberOf v_road v_wayOf = some (r, w_areKindsFound, w_far, w_heaps, w_isMeasured, w_posts, w_newRoad, w_numberOf, w_road, w_wayOf) → Wg p l e 3 72 s m args below meth c g (some (.int r)) (mkS σ [(3238, w_areKindsFound), (3214, w_far), (3215, w_heaps), (3212, w_isMeasured), (3203, w_posts)] [] [(70, w_newRoad), (71, w_numberOf), (54, w_road), (59, w_wayOf)] []) H locs (F0 m 82 ls [])) (k92 : Int32 → Int32 → Int32 → Int32 → Int32 → Int32 → Int32 → Int32 → (Nat → Int32) → (Nat → Int32) → (Nat → Int32) → (Nat → Int32) → Option (Int32 × Int32 × Int32 × Int32 × Int32 × Int32 × (Nat → Int32) × (Nat → Int32) × (Nat → Int32) × (Nat → Int32))) (hk92 : ∀ (x1 : Int32) (x2 : Int32) (x3 : Int32) (v_areKindsFound : Int32) (v_far : Int32) (v_heaps : Int32) (v_isMeasured : Int32) (v_posts : Int32) (v_newRoad : Nat → Int32) (v_numberOf : Nat → Int32) (v_road : Nat → Int32) (v_wayOf : Nat → Int32) (H : Heap) (locs : List Loc) (ls : Array Slot), lv_has ls 4 [(0, .ref (g.2.1 50)), (1, .int x1), (2, .int x2), (3, .int x3)] → GW g s (mkS σ [(3238, v_areKindsFound), (3214, v_far), (3215, v_heaps), (3212, v_isMeasured), (3203, v_posts)] [] [(70, v_newRoad), (71, v_numberOf), (54, v_road), (59, v_wayOf)] []) H locs → k92 x1 x2 x3 v_areKindsFound v_far v_heaps v_isMeasured v_posts v_newRoad v_numberOf v_road v_wayOf = some (r, w_areKindsFound, w_far, w_heaps, w_isMeasured, w_posts, w_newRoad, w_numberOf, w_road, w_wayOf) → Wg p l e 3 72 s m args below meth c g (some (.int r)) (mkS σ [(3238, w_areKindsFound), (3214, w_far), (3215, w_heaps), (3212, w_isMeasured), (3203, w_posts)] [] [(70, w_newRoad), (71, w_numberOf), (54, w_road), (59, w_wayOf)] []) H locs (F0 m 92 ls [])) (x1 : Int32) (x2 : Int32) (x3 : Int32) (v_areKindsFound : Int32) (v_far : Int32) (v_heaps : Int32) (v_isMeasured : Int32) (v_posts : Int32) (v_newRoad : Nat → Int32) (v_numberOf : Nat → Int32) (v_road : Nat → Int32) (v_wayOf : Nat → Int32) (H : Heap) (locs : List Loc) (ls : Array Slot), lv_has ls 4 [(0, .ref (g.2.1 50)), (1, .int x1), (2, .int x2), (3, .int x3)] → GW g s (mkS σ [(3238, v_areKindsFound), (3214, v_far), (3215, v_heaps), (3212, v_isMeasured), (3203, v_posts)] [] [(70, v_newRoad), (71, v_numberOf), (54, v_road), (59, v_wayOf)] []) H locs → M_half_n92 k82 k92 x1 x2 x3 v_areKindsFound v_far v_heaps v_isMeasured v_posts v_newRoad v_numberOf v_road v_wayOf = some (r, w_areKindsFound, w_far, w_heaps, w_isMeasured, w_posts, w_newRoad, w_numberOf, w_road, w_wayOf) → Wg p l e 3 72 s m args below meth c g (some (.int r)) (mkS σ [(3238, w_areKindsFound), (3214, w_far), (3215, w_heaps), (3212, w_isMeasured), (3203, w_posts)] [] [(70, w_newRoad), (71, w_numberOf), (54, w_road), (59, w_wayOf)] []) H locs (F0 m 92 ls []) := by
    intro k82 hk82 k92 hk92 x1 x2 x3 v_areKindsFound v_far v_heaps v_isMeasured v_posts v_newRoad v_numberOf v_road v_wayOf H locs ls hl hG h
    unfold M_half_n92 at h
    refine lv_iload_n hx hb dX9_half_92 rfl (lv_at hl 3 rfl) ?_
    refine lv_aload_n hx hb dX9_half_93 rfl (lv_at hl 0 rfl) ?_
    refine gx_get (v := .int v_posts) (C := RX9) (T := TX9) (N := 44) hx hb hts mc_X9 hown hK hG (ga_50 g _) rfl 3 (by decide) hw1 rfl rfl dX9_half_94 ?_
    refine lv_icmp_ge (tgt := 161) hx hb dX9_half_97 (by decide) (fun c4 => ?_) (fun c4 => ?_)
    · have h := ite_t c4 h
      exact n161 k82 hk82 x1 x2 v_areKindsFound v_far v_heaps v_isMeasured v_posts v_newRoad v_numberOf v_road v_wayOf _ _ _ (lv_sub hl [0, 1, 2] rfl) hG h
    · have h := ite_f c4 h
      refine lv_aload_n hx hb dX9_half_100 rfl (lv_at hl 0 rfl) ?_
      refine gx_get (v := .ref (g.2.1 71)) (C := RX9) (T := TX9) (N := 44) hx hb hts mc_X9 hown hK hG (ga_50 g _) rfl 30 (by decide) hw2 rfl rfl dX9_half_101 ?_
      refine lv_iload_n hx hb dX9_half_104 rfl (lv_at hl 2 rfl) ?_
      obtain ⟨hg5, h⟩ := gd_some h
      refine gx_iald (f := v_numberOf) hx hb hK hG (ga_71 g _) hg5 dX9_half_105 ?_
      refine lv_if_lt (tgt := 155) hx hb dX9_half_106 (by decide) (fun c6 => ?_) (fun c6 => ?_)
      · have h := ite_t c6 h
        exact n155 k92 hk92 x1 x2 x3 v_areKindsFound v_far v_heaps v_isMeasured v_posts v_newRoad v_numberOf v_road v_wayOf _ _ _ (lv_sub hl [0, 1, 2, 3] rfl) hG h
      · have h := ite_f c6 h
        refine lv_aload_n hx hb dX9_half_109 rfl (lv_at hl 0 rfl) ?_
        refine gx_get (v := .ref (g.2.1 71)) (C := RX9) (T := TX9) (N := 44) hx hb hts mc_X9 hown hK hG (ga_50 g _) rfl 30 (by decide) hw2 rfl rfl dX9_half_110 ?_
        refine lv_iload_n hx hb dX9_half_113 rfl (lv_at hl 3 rfl) ?_
        obtain ⟨hg7, h⟩ := gd_some h
        refine gx_iald (f := v_numberOf) hx hb hK hG (ga_71 g _) hg7 dX9_half_114 ?_
        refine lv_if_lt (tgt := 155) hx hb dX9_half_115 (by decide) (fun c8 => ?_) (fun c8 => ?_)
        · have h := ite_t c8 h
          exact n155 k92 hk92 x1 x2 x3 v_areKindsFound v_far v_heaps v_isMeasured v_posts v_newRoad v_numberOf v_road v_wayOf _ _ _ (lv_sub hl [0, 1, 2, 3] rfl) hG h
        · have h := ite_f c8 h
          refine lv_aload_n hx hb dX9_half_118 rfl (lv_at hl 0 rfl) ?_
          refine gx_get (v := .ref (g.2.1 59)) (C := RX9) (T := TX9) (N := 44) hx hb hts mc_X9 hown hK hG (ga_50 g _) rfl 13 (by decide) hw0 rfl rfl dX9_half_119 ?_
          refine lv_bipush (v := (32 : Int32)) hx hb dX9_half_122 (by decide) ?_
          refine lv_iload_n hx hb dX9_half_124 rfl (lv_at hl 2 rfl) ?_
          refine lv_imul hx hb dX9_half_125 ?_
          refine lv_iload_n hx hb dX9_half_126 rfl (lv_at hl 3 rfl) ?_
          refine lv_iadd hx hb dX9_half_127 ?_
          obtain ⟨hg9, h⟩ := gd_some h
          refine gx_iald (f := v_wayOf) hx hb hK hG (ga_59 g _) hg9 dX9_half_128 ?_
          refine lv_iconst (v := (2 : Int32)) hx hb dX9_half_129 (by decide) ?_
          refine lv_icmp_ne (tgt := 155) hx hb dX9_half_130 (by decide) (fun c10 => ?_) (fun c10 => ?_)
          · have h := ite_f c10 h
            exact n155 k92 hk92 x1 x2 x3 v_areKindsFound v_far v_heaps v_isMeasured v_posts v_newRoad v_numberOf v_road v_wayOf _ _ _ (lv_sub hl [0, 1, 2, 3] rfl) hG h
          · have h := ite_t c10 h
            refine lv_aload_n hx hb dX9_half_133 rfl (lv_at hl 0 rfl) ?_
            refine gx_get (v := .ref (g.2.1 70)) (C := RX9) (T := TX9) (N := 44) hx hb hts mc_X9 hown hK hG (ga_50 g _) rfl 29 (by decide) hw3 rfl rfl dX9_half_134 ?_
            refine lv_bipush (v := (32 : Int32)) hx hb dX9_half_137 (by decide) ?_
            refine lv_aload_n hx hb dX9_half_139 rfl (lv_at hl 0 rfl) ?_
            refine gx_get (v := .ref (g.2.1 71)) (C := RX9) (T := TX9) (N := 44) hx hb hts mc_X9 hown hK hG (ga_50 g _) rfl 30 (by decide) hw2 rfl rfl dX9_half_140 ?_
            refine lv_iload_n hx hb dX9_half_143 rfl (lv_at hl 2 rfl) ?_
            refine gx_iald (f := v_numberOf) hx hb hK hG (ga_71 g _) hg5 dX9_half_144 ?_
            refine lv_imul hx hb dX9_half_145 ?_
            refine lv_aload_n hx hb dX9_half_146 rfl (lv_at hl 0 rfl) ?_
            refine gx_get (v := .ref (g.2.1 71)) (C := RX9) (T := TX9) (N := 44) hx hb hts mc_X9 hown hK hG (ga_50 g _) rfl 30 (by decide) hw2 rfl rfl dX9_half_147 ?_
            refine lv_iload_n hx hb dX9_half_150 rfl (lv_at hl 3 rfl) ?_
            refine gx_iald (f := v_numberOf) hx hb hK hG (ga_71 g _) hg7 dX9_half_151 ?_
            refine lv_iadd hx hb dX9_half_152 ?_
            refine lv_iconst (v := (1 : Int32)) hx hb dX9_half_153 (by decide) ?_
            obtain ⟨hg11, h⟩ := gd_some h
            refine gx_zast (σ' := (mkS σ [(3238, v_areKindsFound), (3214, v_far), (3215, v_heaps), (3212, v_isMeasured), (3203, v_posts)] [] [(70, (upd v_newRoad ((((32 : Int32) * (v_numberOf (x2.toNatClampNeg))) + (v_numberOf (x3.toNatClampNeg))).toNatClampNeg) (1 : Int32))), (71, v_numberOf), (54, v_road), (59, v_wayOf)] [])) (f := v_newRoad) hx hb hK hG (ga_70 g _) hg11 (by decide) ((gs_70 g _ _).trans (congrArg (g_cells g) (mk_c 0 rfl rfl))) dX9_half_154 (fun H locs hG => ?_)
            exact n155 k92 hk92 x1 x2 x3 v_areKindsFound v_far v_heaps v_isMeasured v_posts (upd v_newRoad ((((32 : Int32) * (v_numberOf (x2.toNatClampNeg))) + (v_numberOf (x3.toNatClampNeg))).toNatClampNeg) (1 : Int32)) v_numberOf v_road v_wayOf _ _ _ (lv_sub hl [0, 1, 2, 3] rfl) hG h
  have l92 : ∀ (k82 : Int32 → Int32 → Int32 → Int32 → Int32 → Int32 → Int32 → (Nat → Int32) → (Nat → Int32) → (Nat → Int32) → (Nat → Int32) → Option (Int32 × Int32 × Int32 × Int32 × Int32 × Int32 × (Nat → Int32) × (Nat → Int32) × (Nat → Int32) × (Nat → Int32))) (hk82 : ∀ (x1 : Int32) (x2 : Int32) (v_areKindsFound : Int32) (v_far : Int32) (v_heaps : Int32) (v_isMeasured : Int32) (v_posts : Int32) (v_newRoad : Nat → Int32) (v_numberOf : Nat → Int32) (v_road : Nat → Int32) (v_wayOf : Nat → Int32) (H : Heap) (locs : List Loc) (ls : Array Slot), lv_has ls 4 [(0, .ref (g.2.1 50)), (1, .int x1), (2, .int x2)] → GW g s (mkS σ [(3238, v_areKindsFound), (3214, v_far), (3215, v_heaps), (3212, v_isMeasured), (3203, v_posts)] [] [(70, v_newRoad), (71, v_numberOf), (54, v_road), (59, v_wayOf)] []) H locs → k82 x1 x2 v_areKindsFound v_far v_heaps v_isMeasured v_posts v_newRoad v_numberOf v_road v_wayOf = some (r, w_areKindsFound, w_far, w_heaps, w_isMeasured, w_posts, w_newRoad, w_numberOf, w_road, w_wayOf) → Wg p l e 3 72 s m args below meth c g (some (.int r)) (mkS σ [(3238, w_areKindsFound), (3214, w_far), (3215, w_heaps), (3212, w_isMeasured), (3203, w_posts)] [] [(70, w_newRoad), (71, w_numberOf), (54, w_road), (59, w_wayOf)] []) H locs (F0 m 82 ls [])) (F : Nat) (x1 : Int32) (x2 : Int32) (x3 : Int32) (v_areKindsFound : Int32) (v_far : Int32) (v_heaps : Int32) (v_isMeasured : Int32) (v_posts : Int32) (v_newRoad : Nat → Int32) (v_numberOf : Nat → Int32) (v_road : Nat → Int32) (v_wayOf : Nat → Int32) (H : Heap) (locs : List Loc) (ls : Array Slot), lv_has ls 4 [(0, .ref (g.2.1 50)), (1, .int x1), (2, .int x2), (3, .int x3)] → GW g s (mkS σ [(3238, v_areKindsFound), (3214, v_far), (3215, v_heaps), (3212, v_isMeasured), (3203, v_posts)] [] [(70, v_newRoad), (71, v_numberOf), (54, v_road), (59, v_wayOf)] []) H locs → M_half_l92 k82 F x1 x2 x3 v_areKindsFound v_far v_heaps v_isMeasured v_posts v_newRoad v_numberOf v_road v_wayOf = some (r, w_areKindsFound, w_far, w_heaps, w_isMeasured, w_posts, w_newRoad, w_numberOf, w_road, w_wayOf) → Wg p l e 3 72 s m args below meth c g (some (.int r)) (mkS σ [(3238, w_areKindsFound), (3214, w_far), (3215, w_heaps), (3212, w_isMeasured), (3203, w_posts)] [] [(70, w_newRoad), (71, w_numberOf), (54, w_road), (59, w_wayOf)] []) H locs (F0 m 92 ls []) := by
    intro k82 hk82 F
    induction F with
    | zero => intro x1 x2 x3 v_areKindsFound v_far v_heaps v_isMeasured v_posts v_newRoad v_numberOf v_road v_wayOf H locs ls hl hG h; exact no_some h
    | succ F ih => intro x1 x2 x3 v_areKindsFound v_far v_heaps v_isMeasured v_posts v_newRoad v_numberOf v_road v_wayOf H locs ls hl hG h; exact n92 k82 hk82 (fun x1 x2 x3 v_areKindsFound v_far v_heaps v_isMeasured v_posts v_newRoad v_numberOf v_road v_wayOf => M_half_l92 k82 F x1 x2 x3 v_areKindsFound v_far v_heaps v_isMeasured v_posts v_newRoad v_numberOf v_road v_wayOf) ih x1 x2 x3 v_areKindsFound v_far v_heaps v_isMeasured v_posts v_newRoad v_numberOf v_road v_wayOf H locs ls hl hG h
  have n167 : ∀ (x1 : Int32) (v_areKindsFound : Int32) (v_far : Int32) (v_heaps : Int32) (v_isMeasured : Int32) (v_posts : Int32) (v_newRoad : Nat → Int32) (v_numberOf : Nat → Int32) (v_road : Nat → Int32) (v_wayOf : Nat → Int32) (H : Heap) (locs : List Loc) (ls : Array Slot), lv_has ls 4 [(0, .ref (g.2.1 50)), (1, .int x1)] → GW g s (mkS σ [(3238, v_areKindsFound), (3214, v_far), (3215, v_heaps), (3212, v_isMeasured), (3203, v_posts)] [] [(70, v_newRoad), (71, v_numberOf), (54, v_road), (59, v_wayOf)] []) H locs → M_half_n167 x1 v_areKindsFound v_far v_heaps v_isMeasured v_posts v_newRoad v_numberOf v_road v_wayOf = some (r, w_areKindsFound, w_far, w_heaps, w_isMeasured, w_posts, w_newRoad, w_numberOf, w_road, w_wayOf) → Wg p l e 3 72 s m args below meth c g (some (.int r)) (mkS σ [(3238, w_areKindsFound), (3214, w_far), (3215, w_heaps), (3212, w_isMeasured), (3203, w_posts)] [] [(70, w_newRoad), (71, w_numberOf), (54, w_road), (59, w_wayOf)] []) H locs (F0 m 167 ls []) := by
    intro x1 v_areKindsFound v_far v_heaps v_isMeasured v_posts v_newRoad v_numberOf v_road v_wayOf H locs ls hl hG h
    unfold M_half_n167 at h
    refine lv_aload_n hx hb dX9_half_167 rfl (lv_at hl 0 rfl) ?_
    refine lv_iload_n hx hb dX9_half_168 rfl (lv_at hl 1 rfl) ?_
    obtain ⟨z12, hc13, h⟩ := bnd_some h
    refine gx_cV (σ' := (mkS σ [(3238, z12.1), (3214, v_far), (3215, v_heaps), (3212, z12.2.1), (3203, z12.2.2.1)] [] [(70, v_newRoad), (71, v_numberOf), (54, z12.2.2.2), (59, v_wayOf)] [])) (r := none) (rest := []) (As := [.int x1]) hS9 (c_M_become l g (mkS σ [(3238, v_areKindsFound), (3214, v_far), (3215, v_heaps), (3212, v_isMeasured), (3203, v_posts)] [] [(70, v_newRoad), (71, v_numberOf), (54, v_road), (59, v_wayOf)] []) x1 z12.1 z12.2.1 z12.2.2.1 z12.2.2.2 hc13) (mk_mk rfl rfl rfl rfl) (cwV 1 hts (gz_V mw_6_42 mw_6_44 ms_5_1 mw_1_11 mw_6_45) rfl rfl rfl hdV_X9_become ⟨Nat.le_of_ble_eq_true rfl, Nat.le_of_ble_eq_true rfl⟩) hK hG (ga_50 g _) rfl rfl rfl hl.1 rfl (Nat.le_of_ble_eq_true rfl) dX9_half_169 (fun H locs hG => ?_)
    refine W.eq (g2 := F0 m 172 ls []) rfl ?_
    refine lv_iload_n hx hb dX9_half_172 rfl (lv_at hl 1 rfl) ?_
    cases h
    exact gx_iret hx hb hr hlocks hG dX9_half_173
  have n82 : ∀ (k82 : Int32 → Int32 → Int32 → Int32 → Int32 → Int32 → Int32 → (Nat → Int32) → (Nat → Int32) → (Nat → Int32) → (Nat → Int32) → Option (Int32 × Int32 × Int32 × Int32 × Int32 × Int32 × (Nat → Int32) × (Nat → Int32) × (Nat → Int32) × (Nat → Int32))) (hk82 : ∀ (x1 : Int32) (x2 : Int32) (v_areKindsFound : Int32) (v_far : Int32) (v_heaps : Int32) (v_isMeasured : Int32) (v_posts : Int32) (v_newRoad : Nat → Int32) (v_numberOf : Nat → Int32) (v_road : Nat → Int32) (v_wayOf : Nat → Int32) (H : Heap) (locs : List Loc) (ls : Array Slot), lv_has ls 4 [(0, .ref (g.2.1 50)), (1, .int x1), (2, .int x2)] → GW g s (mkS σ [(3238, v_areKindsFound), (3214, v_far), (3215, v_heaps), (3212, v_isMeasured), (3203, v_posts)] [] [(70, v_newRoad), (71, v_numberOf), (54, v_road), (59, v_wayOf)] []) H locs → k82 x1 x2 v_areKindsFound v_far v_heaps v_isMeasured v_posts v_newRoad v_numberOf v_road v_wayOf = some (r, w_areKindsFound, w_far, w_heaps, w_isMeasured, w_posts, w_newRoad, w_numberOf, w_road, w_wayOf) → Wg p l e 3 72 s m args below meth c g (some (.int r)) (mkS σ [(3238, w_areKindsFound), (3214, w_far), (3215, w_heaps), (3212, w_isMeasured), (3203, w_posts)] [] [(70, w_newRoad), (71, w_numberOf), (54, w_road), (59, w_wayOf)] []) H locs (F0 m 82 ls [])) (x1 : Int32) (x2 : Int32) (v_areKindsFound : Int32) (v_far : Int32) (v_heaps : Int32) (v_isMeasured : Int32) (v_posts : Int32) (v_newRoad : Nat → Int32) (v_numberOf : Nat → Int32) (v_road : Nat → Int32) (v_wayOf : Nat → Int32) (H : Heap) (locs : List Loc) (ls : Array Slot), lv_has ls 4 [(0, .ref (g.2.1 50)), (1, .int x1), (2, .int x2)] → GW g s (mkS σ [(3238, v_areKindsFound), (3214, v_far), (3215, v_heaps), (3212, v_isMeasured), (3203, v_posts)] [] [(70, v_newRoad), (71, v_numberOf), (54, v_road), (59, v_wayOf)] []) H locs → M_half_n82 k82 x1 x2 v_areKindsFound v_far v_heaps v_isMeasured v_posts v_newRoad v_numberOf v_road v_wayOf = some (r, w_areKindsFound, w_far, w_heaps, w_isMeasured, w_posts, w_newRoad, w_numberOf, w_road, w_wayOf) → Wg p l e 3 72 s m args below meth c g (some (.int r)) (mkS σ [(3238, w_areKindsFound), (3214, w_far), (3215, w_heaps), (3212, w_isMeasured), (3203, w_posts)] [] [(70, w_newRoad), (71, w_numberOf), (54, w_road), (59, w_wayOf)] []) H locs (F0 m 82 ls []) := by
    intro k82 hk82 x1 x2 v_areKindsFound v_far v_heaps v_isMeasured v_posts v_newRoad v_numberOf v_road v_wayOf H locs ls hl hG h
    unfold M_half_n82 at h
    refine lv_iload_n hx hb dX9_half_82 rfl (lv_at hl 2 rfl) ?_
    refine lv_aload_n hx hb dX9_half_83 rfl (lv_at hl 0 rfl) ?_
    refine gx_get (v := .int v_posts) (C := RX9) (T := TX9) (N := 44) hx hb hts mc_X9 hown hK hG (ga_50 g _) rfl 3 (by decide) hw1 rfl rfl dX9_half_84 ?_
    refine lv_icmp_ge (tgt := 167) hx hb dX9_half_87 (by decide) (fun c14 => ?_) (fun c14 => ?_)
    · have h := ite_t c14 h
      exact n167 x1 v_areKindsFound v_far v_heaps v_isMeasured v_posts v_newRoad v_numberOf v_road v_wayOf _ _ _ (lv_sub hl [0, 1] rfl) hG h
    · have h := ite_f c14 h
      refine lv_iconst (v := (0 : Int32)) hx hb dX9_half_90 (by decide) ?_
      refine lv_istore_n (lv' := [(3, .int (0 : Int32)), (0, .ref (g.2.1 50)), (1, .int x1), (2, .int x2)]) hx hb dX9_half_91 rfl hl (Nat.le_of_ble_eq_true rfl) rfl (fun ls hl => ?_)
      exact l92 k82 hk82 FUEL x1 x2 (0 : Int32) v_areKindsFound v_far v_heaps v_isMeasured v_posts v_newRoad v_numberOf v_road v_wayOf _ _ _ (lv_sub hl [1, 2, 3, 0] rfl) hG h
  have l82 : ∀  (F : Nat) (x1 : Int32) (x2 : Int32) (v_areKindsFound : Int32) (v_far : Int32) (v_heaps : Int32) (v_isMeasured : Int32) (v_posts : Int32) (v_newRoad : Nat → Int32) (v_numberOf : Nat → Int32) (v_road : Nat → Int32) (v_wayOf : Nat → Int32) (H : Heap) (locs : List Loc) (ls : Array Slot), lv_has ls 4 [(0, .ref (g.2.1 50)), (1, .int x1), (2, .int x2)] → GW g s (mkS σ [(3238, v_areKindsFound), (3214, v_far), (3215, v_heaps), (3212, v_isMeasured), (3203, v_posts)] [] [(70, v_newRoad), (71, v_numberOf), (54, v_road), (59, v_wayOf)] []) H locs → M_half_l82 F x1 x2 v_areKindsFound v_far v_heaps v_isMeasured v_posts v_newRoad v_numberOf v_road v_wayOf = some (r, w_areKindsFound, w_far, w_heaps, w_isMeasured, w_posts, w_newRoad, w_numberOf, w_road, w_wayOf) → Wg p l e 3 72 s m args below meth c g (some (.int r)) (mkS σ [(3238, w_areKindsFound), (3214, w_far), (3215, w_heaps), (3212, w_isMeasured), (3203, w_posts)] [] [(70, w_newRoad), (71, w_numberOf), (54, w_road), (59, w_wayOf)] []) H locs (F0 m 82 ls []) := by
    intro F
    induction F with
    | zero => intro x1 x2 v_areKindsFound v_far v_heaps v_isMeasured v_posts v_newRoad v_numberOf v_road v_wayOf H locs ls hl hG h; exact no_some h
    | succ F ih => intro x1 x2 v_areKindsFound v_far v_heaps v_isMeasured v_posts v_newRoad v_numberOf v_road v_wayOf H locs ls hl hG h; exact n82 (fun x1 x2 v_areKindsFound v_far v_heaps v_isMeasured v_posts v_newRoad v_numberOf v_road v_wayOf => M_half_l82 F x1 x2 v_areKindsFound v_far v_heaps v_isMeasured v_posts v_newRoad v_numberOf v_road v_wayOf) ih x1 x2 v_areKindsFound v_far v_heaps v_isMeasured v_posts v_newRoad v_numberOf v_road v_wayOf H locs ls hl hG h
  have n76 : ∀ (x1 : Int32) (v_areKindsFound : Int32) (v_far : Int32) (v_heaps : Int32) (v_isMeasured : Int32) (v_posts : Int32) (v_newRoad : Nat → Int32) (v_numberOf : Nat → Int32) (v_road : Nat → Int32) (v_wayOf : Nat → Int32) (H : Heap) (locs : List Loc) (ls : Array Slot), lv_has ls 4 [(0, .ref (g.2.1 50)), (1, .int x1)] → GW g s (mkS σ [(3238, v_areKindsFound), (3214, v_far), (3215, v_heaps), (3212, v_isMeasured), (3203, v_posts)] [] [(70, v_newRoad), (71, v_numberOf), (54, v_road), (59, v_wayOf)] []) H locs → M_half_n76 x1 v_areKindsFound v_far v_heaps v_isMeasured v_posts v_newRoad v_numberOf v_road v_wayOf = some (r, w_areKindsFound, w_far, w_heaps, w_isMeasured, w_posts, w_newRoad, w_numberOf, w_road, w_wayOf) → Wg p l e 3 72 s m args below meth c g (some (.int r)) (mkS σ [(3238, w_areKindsFound), (3214, w_far), (3215, w_heaps), (3212, w_isMeasured), (3203, w_posts)] [] [(70, w_newRoad), (71, w_numberOf), (54, w_road), (59, w_wayOf)] []) H locs (F0 m 76 ls []) := by
    intro x1 v_areKindsFound v_far v_heaps v_isMeasured v_posts v_newRoad v_numberOf v_road v_wayOf H locs ls hl hG h
    unfold M_half_n76 at h
    refine lv_aload_n hx hb dX9_half_76 rfl (lv_at hl 0 rfl) ?_
    obtain ⟨z15, hc16, h⟩ := bnd_some h
    refine gx_cV (σ' := (mkS σ [(3238, v_areKindsFound), (3214, v_far), (3215, v_heaps), (3212, v_isMeasured), (3203, v_posts)] [] [(70, z15), (71, v_numberOf), (54, v_road), (59, v_wayOf)] [])) (r := none) (rest := []) (As := []) hS9 (c_M_clearNew l g (mkS σ [(3238, v_areKindsFound), (3214, v_far), (3215, v_heaps), (3212, v_isMeasured), (3203, v_posts)] [] [(70, v_newRoad), (71, v_numberOf), (54, v_road), (59, v_wayOf)] []) z15 hc16) (mk_mk rfl rfl rfl rfl) (cwV 0 hts (gz_V mw_6_38 mw_6_40 ms_5_0 mw_1_11 mw_6_41) rfl rfl rfl hdV_X9_clearNew ⟨Nat.le_of_ble_eq_true rfl, Nat.le_of_ble_eq_true rfl⟩) hK hG (ga_50 g _) rfl rfl rfl hl.1 rfl (Nat.le_of_ble_eq_true rfl) dX9_half_77 (fun H locs hG => ?_)
    refine W.eq (g2 := F0 m 80 ls []) rfl ?_
    refine lv_iconst (v := (0 : Int32)) hx hb dX9_half_80 (by decide) ?_
    refine lv_istore_n (lv' := [(2, .int (0 : Int32)), (0, .ref (g.2.1 50)), (1, .int x1)]) hx hb dX9_half_81 rfl hl (Nat.le_of_ble_eq_true rfl) rfl (fun ls hl => ?_)
    exact l82 FUEL x1 (0 : Int32) v_areKindsFound v_far v_heaps v_isMeasured v_posts z15 v_numberOf v_road v_wayOf _ _ _ (lv_sub hl [1, 2, 0] rfl) hG h
  have n21 : ∀ (k21 : Int32 → Int32 → Int32 → Int32 → Int32 → Int32 → Int32 → (Nat → Int32) → (Nat → Int32) → (Nat → Int32) → (Nat → Int32) → Option (Int32 × Int32 × Int32 × Int32 × Int32 × Int32 × (Nat → Int32) × (Nat → Int32) × (Nat → Int32) × (Nat → Int32))) (hk21 : ∀ (x1 : Int32) (x2 : Int32) (v_areKindsFound : Int32) (v_far : Int32) (v_heaps : Int32) (v_isMeasured : Int32) (v_posts : Int32) (v_newRoad : Nat → Int32) (v_numberOf : Nat → Int32) (v_road : Nat → Int32) (v_wayOf : Nat → Int32) (H : Heap) (locs : List Loc) (ls : Array Slot), lv_has ls 4 [(0, .ref (g.2.1 50)), (1, .int x1), (2, .int x2)] → GW g s (mkS σ [(3238, v_areKindsFound), (3214, v_far), (3215, v_heaps), (3212, v_isMeasured), (3203, v_posts)] [] [(70, v_newRoad), (71, v_numberOf), (54, v_road), (59, v_wayOf)] []) H locs → k21 x1 x2 v_areKindsFound v_far v_heaps v_isMeasured v_posts v_newRoad v_numberOf v_road v_wayOf = some (r, w_areKindsFound, w_far, w_heaps, w_isMeasured, w_posts, w_newRoad, w_numberOf, w_road, w_wayOf) → Wg p l e 3 72 s m args below meth c g (some (.int r)) (mkS σ [(3238, w_areKindsFound), (3214, w_far), (3215, w_heaps), (3212, w_isMeasured), (3203, w_posts)] [] [(70, w_newRoad), (71, w_numberOf), (54, w_road), (59, w_wayOf)] []) H locs (F0 m 21 ls [])) (x1 : Int32) (x2 : Int32) (v_areKindsFound : Int32) (v_far : Int32) (v_heaps : Int32) (v_isMeasured : Int32) (v_posts : Int32) (v_newRoad : Nat → Int32) (v_numberOf : Nat → Int32) (v_road : Nat → Int32) (v_wayOf : Nat → Int32) (H : Heap) (locs : List Loc) (ls : Array Slot), lv_has ls 4 [(0, .ref (g.2.1 50)), (1, .int x1), (2, .int x2)] → GW g s (mkS σ [(3238, v_areKindsFound), (3214, v_far), (3215, v_heaps), (3212, v_isMeasured), (3203, v_posts)] [] [(70, v_newRoad), (71, v_numberOf), (54, v_road), (59, v_wayOf)] []) H locs → M_half_n21 k21 x1 x2 v_areKindsFound v_far v_heaps v_isMeasured v_posts v_newRoad v_numberOf v_road v_wayOf = some (r, w_areKindsFound, w_far, w_heaps, w_isMeasured, w_posts, w_newRoad, w_numberOf, w_road, w_wayOf) → Wg p l e 3 72 s m args below meth c g (some (.int r)) (mkS σ [(3238, w_areKindsFound), (3214, w_far), (3215, w_heaps), (3212, w_isMeasured), (3203, w_posts)] [] [(70, w_newRoad), (71, w_numberOf), (54, w_road), (59, w_wayOf)] []) H locs (F0 m 21 ls []) := by
    intro k21 hk21 x1 x2 v_areKindsFound v_far v_heaps v_isMeasured v_posts v_newRoad v_numberOf v_road v_wayOf H locs ls hl hG h
    unfold M_half_n21 at h
    refine lv_iload_n hx hb dX9_half_21 rfl (lv_at hl 2 rfl) ?_
    refine lv_aload_n hx hb dX9_half_22 rfl (lv_at hl 0 rfl) ?_
    refine gx_get (v := .int v_posts) (C := RX9) (T := TX9) (N := 44) hx hb hts mc_X9 hown hK hG (ga_50 g _) rfl 3 (by decide) hw1 rfl rfl dX9_half_23 ?_
    refine lv_icmp_ge (tgt := 76) hx hb dX9_half_26 (by decide) (fun c17 => ?_) (fun c17 => ?_)
    · have h := ite_t c17 h
      exact n76 x1 v_areKindsFound v_far v_heaps v_isMeasured v_posts v_newRoad v_numberOf v_road v_wayOf _ _ _ (lv_sub hl [0, 1] rfl) hG h
    · have h := ite_f c17 h
      refine lv_aload_n hx hb dX9_half_29 rfl (lv_at hl 0 rfl) ?_
      refine gx_get (v := .ref (g.2.1 71)) (C := RX9) (T := TX9) (N := 44) hx hb hts mc_X9 hown hK hG (ga_50 g _) rfl 30 (by decide) hw2 rfl rfl dX9_half_30 ?_
      refine lv_iload_n hx hb dX9_half_33 rfl (lv_at hl 2 rfl) ?_
      refine lv_aload_n hx hb dX9_half_34 rfl (lv_at hl 0 rfl) ?_
      refine gx_get (v := .ref (g.2.1 59)) (C := RX9) (T := TX9) (N := 44) hx hb hts mc_X9 hown hK hG (ga_50 g _) rfl 13 (by decide) hw0 rfl rfl dX9_half_35 ?_
      refine lv_iload_n hx hb dX9_half_38 rfl (lv_at hl 2 rfl) ?_
      obtain ⟨hg18, h⟩ := gd_some h
      refine gx_iald (f := v_wayOf) hx hb hK hG (ga_59 g _) hg18 dX9_half_39 ?_
      refine lv_iconst (v := (2 : Int32)) hx hb dX9_half_40 (by decide) ?_
      refine lv_irem hx hb dX9_half_41 (by decide) ?_
      refine lv_if_ne (tgt := 49) hx hb dX9_half_42 (by decide) (fun c19 => ?_) (fun c19 => ?_)
      · have h := ite_f c19 h
        refine lv_iconst (v := (-1 : Int32)) hx hb dX9_half_49 (by decide) ?_
        exact n50 k21 hk21 x1 x2 x2 (-1 : Int32) v_areKindsFound v_far v_heaps v_isMeasured v_posts v_newRoad v_numberOf v_road v_wayOf _ _ _ (lv_sub hl [0, 1, 2] rfl) hG h
      · have h := ite_t c19 h
        refine lv_iload_n hx hb dX9_half_45 rfl (lv_at hl 1 rfl) ?_
        refine lv_goto (tgt := 50) hx hb dX9_half_46 (by decide) ?_
        exact n50 k21 hk21 x1 x2 x2 x1 v_areKindsFound v_far v_heaps v_isMeasured v_posts v_newRoad v_numberOf v_road v_wayOf _ _ _ (lv_sub hl [0, 1, 2] rfl) hG h
  have l21 : ∀  (F : Nat) (x1 : Int32) (x2 : Int32) (v_areKindsFound : Int32) (v_far : Int32) (v_heaps : Int32) (v_isMeasured : Int32) (v_posts : Int32) (v_newRoad : Nat → Int32) (v_numberOf : Nat → Int32) (v_road : Nat → Int32) (v_wayOf : Nat → Int32) (H : Heap) (locs : List Loc) (ls : Array Slot), lv_has ls 4 [(0, .ref (g.2.1 50)), (1, .int x1), (2, .int x2)] → GW g s (mkS σ [(3238, v_areKindsFound), (3214, v_far), (3215, v_heaps), (3212, v_isMeasured), (3203, v_posts)] [] [(70, v_newRoad), (71, v_numberOf), (54, v_road), (59, v_wayOf)] []) H locs → M_half_l21 F x1 x2 v_areKindsFound v_far v_heaps v_isMeasured v_posts v_newRoad v_numberOf v_road v_wayOf = some (r, w_areKindsFound, w_far, w_heaps, w_isMeasured, w_posts, w_newRoad, w_numberOf, w_road, w_wayOf) → Wg p l e 3 72 s m args below meth c g (some (.int r)) (mkS σ [(3238, w_areKindsFound), (3214, w_far), (3215, w_heaps), (3212, w_isMeasured), (3203, w_posts)] [] [(70, w_newRoad), (71, w_numberOf), (54, w_road), (59, w_wayOf)] []) H locs (F0 m 21 ls []) := by
    intro F
    induction F with
    | zero => intro x1 x2 v_areKindsFound v_far v_heaps v_isMeasured v_posts v_newRoad v_numberOf v_road v_wayOf H locs ls hl hG h; exact no_some h
    | succ F ih => intro x1 x2 v_areKindsFound v_far v_heaps v_isMeasured v_posts v_newRoad v_numberOf v_road v_wayOf H locs ls hl hG h; exact n21 (fun x1 x2 v_areKindsFound v_far v_heaps v_isMeasured v_posts v_newRoad v_numberOf v_road v_wayOf => M_half_l21 F x1 x2 v_areKindsFound v_far v_heaps v_isMeasured v_posts v_newRoad v_numberOf v_road v_wayOf) ih x1 x2 v_areKindsFound v_far v_heaps v_isMeasured v_posts v_newRoad v_numberOf v_road v_wayOf H locs ls hl hG h
  refine lv_aload_n hx hb dX9_half_0 rfl (lv_at hl 0 rfl) ?_
  obtain ⟨z20, hc21, h⟩ := bnd_some h
  refine gx_cV (σ' := (mkS σ [(3238, (σ.1 3238)), (3214, z20.2.1), (3215, z20.2.2.1), (3212, z20.2.2.2.1), (3203, (σ.1 3203))] [] [(70, (σ.2.2.1 70)), (71, (σ.2.2.1 71)), (54, (σ.2.2.1 54)), (59, z20.2.2.2.2)] [])) (r := (some (.int z20.1))) (rest := []) (As := []) hS9 (c_M_isWhole l g (mkS σ [(3238, (σ.1 3238)), (3214, (σ.1 3214)), (3215, (σ.1 3215)), (3212, (σ.1 3212)), (3203, (σ.1 3203))] [] [(70, (σ.2.2.1 70)), (71, (σ.2.2.1 71)), (54, (σ.2.2.1 54)), (59, (σ.2.2.1 59))] []) z20.1 z20.2.1 z20.2.2.1 z20.2.2.2.1 z20.2.2.2.2 hc21) (mk_mk rfl rfl rfl rfl) (cwV 0 hts (gz_V mw_5_157 mw_5_159 ms_4_2 mw_1_11 mw_5_160) rfl rfl rfl hdV_X9_isWhole ⟨Nat.le_of_ble_eq_true rfl, Nat.le_of_ble_eq_true rfl⟩) hK hG (ga_50 g _) rfl rfl rfl hl.1 rfl (Nat.le_of_ble_eq_true rfl) dX9_half_1 (fun H locs hG => ?_)
  refine W.eq (g2 := F0 m 4 ls [.int z20.1]) rfl ?_
  refine lv_if_eq (tgt := 14) hx hb dX9_half_4 (by decide) (fun c22 => ?_) (fun c22 => ?_)
  · have h := ite_t c22 h
    exact n14 (σ.1 3238) z20.2.1 z20.2.2.1 z20.2.2.2.1 (σ.1 3203) (σ.2.2.1 70) (σ.2.2.1 71) (σ.2.2.1 54) z20.2.2.2.2 _ _ _ (lv_sub hl [] rfl) hG h
  · have h := ite_f c22 h
    refine lv_aload_n hx hb dX9_half_7 rfl (lv_at hl 0 rfl) ?_
    obtain ⟨z23, hc24, h⟩ := bnd_some h
    refine gx_cV (σ' := (mkS σ [(3238, (σ.1 3238)), (3214, z23.2.1), (3215, z23.2.2.1), (3212, z23.2.2.2.1), (3203, (σ.1 3203))] [] [(70, (σ.2.2.1 70)), (71, (σ.2.2.1 71)), (54, (σ.2.2.1 54)), (59, z23.2.2.2.2)] [])) (r := (some (.int z23.1))) (rest := []) (As := []) hS9 (c_M_isOfSides l g (mkS σ [(3238, (σ.1 3238)), (3214, z20.2.1), (3215, z20.2.2.1), (3212, z20.2.2.2.1), (3203, (σ.1 3203))] [] [(70, (σ.2.2.1 70)), (71, (σ.2.2.1 71)), (54, (σ.2.2.1 54)), (59, z20.2.2.2.2)] []) z23.1 z23.2.1 z23.2.2.1 z23.2.2.2.1 z23.2.2.2.2 hc24) (mk_mk rfl rfl rfl rfl) (cwV 0 hts (gz_V mw_5_149 mw_5_151 ms_4_0 mw_1_11 mw_5_152) rfl rfl rfl hdV_X9_isOfSides ⟨Nat.le_of_ble_eq_true rfl, Nat.le_of_ble_eq_true rfl⟩) hK hG (ga_50 g _) rfl rfl rfl hl.1 rfl (Nat.le_of_ble_eq_true rfl) dX9_half_8 (fun H locs hG => ?_)
    refine W.eq (g2 := F0 m 11 ls [.int z23.1]) rfl ?_
    refine lv_if_ne (tgt := 17) hx hb dX9_half_11 (by decide) (fun c25 => ?_) (fun c25 => ?_)
    · have h := ite_f c25 h
      refine lv_iconst (v := (0 : Int32)) hx hb dX9_half_17 (by decide) ?_
      refine lv_istore_n (lv' := [(1, .int (0 : Int32)), (0, .ref (g.2.1 50))]) hx hb dX9_half_18 rfl hl (Nat.le_of_ble_eq_true rfl) rfl (fun ls hl => ?_)
      refine lv_iconst (v := (0 : Int32)) hx hb dX9_half_19 (by decide) ?_
      refine lv_istore_n (lv' := [(2, .int (0 : Int32)), (1, .int (0 : Int32)), (0, .ref (g.2.1 50))]) hx hb dX9_half_20 rfl hl (Nat.le_of_ble_eq_true rfl) rfl (fun ls hl => ?_)
      exact l21 FUEL (0 : Int32) (0 : Int32) (σ.1 3238) z23.2.1 z23.2.2.1 z23.2.2.2.1 (σ.1 3203) (σ.2.2.1 70) (σ.2.2.1 71) (σ.2.2.1 54) z23.2.2.2.2 _ _ _ (lv_sub hl [2, 1, 0] rfl) hG h
    · have h := ite_t c25 h
      exact n14 (σ.1 3238) z23.2.1 z23.2.2.1 z23.2.2.2.1 (σ.1 3203) (σ.2.2.1 70) (σ.2.2.1 71) (σ.2.2.1 54) z23.2.2.2.2 _ _ _ (lv_sub hl [] rfl) hG h

set_option maxHeartbeats 4000000 in
set_option maxRecDepth 100000 in
theorem c_M_findNear (l : Launch) (g : GC) (σ : St) (x1 : Int32) (w_nearTo : Nat → Int32) (h : M_findNear x1 (σ.1 3203) (σ.2.2.1 76) (σ.2.2.1 59) = some w_nearTo) : Cn l g yX9_findNear (Cond.code yX9_findNear cX9_findNear 4 none :: wG) 0 0 [.ref (g.2.1 50), .int x1] σ none (mkS σ [] [] [(76, w_nearTo)] []) := by
  unfold Cn
  refine Met.ofW (cc := cX9_findNear) (maxL := 4) (ret := none) (by decide) rfl ?_
  intro p e s m args below meth c s₁ B hml hv
  obtain ⟨hargs, hP0, hK⟩ := hv
  have hx := B.exec
  have hb := B.bytes
  have hr := B.returns
  have hts : ∀ w ∈ wG, w.before args s = true := fun w h => atoms_spec (ws := (Cond.code yX9_findNear cX9_findNear 4 none :: wG)) B.pre w (List.mem_cons_of_mem _ h)
  have hown : s.vm.findClass RX9 = some m.cls := findClass_of_methodNamed B.named
  have hlocks := B.notSynchronized
  have hw0 := hts _ mw_4_142
  have hw1 := hts _ mw_4_175
  have hw2 := hts _ mw_4_152
  have hf9 : entryFrame m args 4 = _ := (congrArg (fun a => entryFrame m a 4) hargs).trans (lg_entry_eq m [.ref (g.2.1 50), .int x1] 4)
  show Wg p l e 0 0 s m args below meth c g none (mkS σ [] [] [(76, w_nearTo)] []) s.heap [] (entryFrame m args 4)
  rw [hf9]
  have hl := lv_entry ([.ref (g.2.1 50), .int x1]) (n := 4) (Nat.le_of_ble_eq_true rfl)
  generalize (lg_sl ([.ref (g.2.1 50), .int x1]) ++ List.replicate (4 - (lg_sl ([.ref (g.2.1 50), .int x1])).length) Slot.unset).toArray = ls at hl ⊢
  have hl : lv_has ls 4 [(0, .ref (g.2.1 50)), (1, .int x1)] := hl
  have hG : GW g s σ s.heap [] := ⟨hP0, va_S.rf⟩
  have hG : GW g s (mkS σ [] [] [(76, (σ.2.2.1 76))] []) s.heap [] := GW_self [] [] [76] [] hG
  unfold M_findNear at h
  have n56 : ∀ (k19 : Int32 → Int32 → Int32 → (Nat → Int32) → Option ((Nat → Int32))) (hk19 : ∀ (x1 : Int32) (x2 : Int32) (x3 : Int32) (v_nearTo : Nat → Int32) (H : Heap) (locs : List Loc) (ls : Array Slot), lv_has ls 4 [(0, .ref (g.2.1 50)), (1, .int x1), (2, .int x2), (3, .int x3)] → GW g s (mkS σ [] [] [(76, v_nearTo)] []) H locs → k19 x1 x2 x3 v_nearTo = some w_nearTo → Wg p l e 0 0 s m args below meth c g none (mkS σ [] [] [(76, w_nearTo)] []) H locs (F0 m 19 ls [])) (x1 : Int32) (x2 : Int32) (x3 : Int32) (t1 : Int32) (t2 : Int32) (t3 : Int32) (v_nearTo : Nat → Int32) (H : Heap) (locs : List Loc) (ls : Array Slot), lv_has ls 4 [(0, .ref (g.2.1 50)), (1, .int x1), (2, .int x2), (3, .int x3)] → GW g s (mkS σ [] [] [(76, v_nearTo)] []) H locs → M_findNear_n56 k19 x1 x2 x3 t1 t2 t3 v_nearTo = some w_nearTo → Wg p l e 0 0 s m args below meth c g none (mkS σ [] [] [(76, w_nearTo)] []) H locs (F0 m 56 ls [.int t3, .int t2, .int t1, .ref (g.2.1 76)]) := by
    intro k19 hk19 x1 x2 x3 t1 t2 t3 v_nearTo H locs ls hl hG h
    unfold M_findNear_n56 at h
    refine lv_ior hx hb dX9_findNear_56 ?_
    obtain ⟨hg1, h⟩ := gd_some h
    refine gx_iast (σ' := (mkS σ [] [] [(76, (upd v_nearTo (t1.toNatClampNeg) (t2 ||| t3)))] [])) (f := v_nearTo) hx hb hK hG (ga_76 g _) hg1 ((gs_76 g _ _).trans (congrArg (g_cells g) (mk_c 0 rfl rfl))) dX9_findNear_57 (fun H locs hG => ?_)
    refine lv_iinc (v := (x3 + (1 : Int32))) (lv' := [(3, .int (x3 + (1 : Int32))), (0, .ref (g.2.1 50)), (1, .int x1), (2, .int x2)]) hx hb dX9_findNear_58 hl (k := 3) rfl (congrArg (fun z => x3 + z) (by decide)) (Nat.le_of_ble_eq_true rfl) rfl (fun ls hl => ?_)
    refine lv_goto (tgt := 19) hx hb dX9_findNear_61 (by decide) ?_
    exact hk19 x1 x2 (x3 + (1 : Int32)) (upd v_nearTo (t1.toNatClampNeg) (t2 ||| t3)) _ _ _ (lv_sub hl [1, 2, 3, 0] rfl) hG h
  have n64 : ∀ (k2 : Int32 → Int32 → (Nat → Int32) → Option ((Nat → Int32))) (hk2 : ∀ (x1 : Int32) (x2 : Int32) (v_nearTo : Nat → Int32) (H : Heap) (locs : List Loc) (ls : Array Slot), lv_has ls 4 [(0, .ref (g.2.1 50)), (1, .int x1), (2, .int x2)] → GW g s (mkS σ [] [] [(76, v_nearTo)] []) H locs → k2 x1 x2 v_nearTo = some w_nearTo → Wg p l e 0 0 s m args below meth c g none (mkS σ [] [] [(76, w_nearTo)] []) H locs (F0 m 2 ls [])) (x1 : Int32) (x2 : Int32) (v_nearTo : Nat → Int32) (H : Heap) (locs : List Loc) (ls : Array Slot), lv_has ls 4 [(0, .ref (g.2.1 50)), (1, .int x1), (2, .int x2)] → GW g s (mkS σ [] [] [(76, v_nearTo)] []) H locs → M_findNear_n64 k2 x1 x2 v_nearTo = some w_nearTo → Wg p l e 0 0 s m args below meth c g none (mkS σ [] [] [(76, w_nearTo)] []) H locs (F0 m 64 ls []) := by
    intro k2 hk2 x1 x2 v_nearTo H locs ls hl hG h
    unfold M_findNear_n64 at h
    refine lv_iinc (v := (x2 + (1 : Int32))) (lv' := [(2, .int (x2 + (1 : Int32))), (0, .ref (g.2.1 50)), (1, .int x1)]) hx hb dX9_findNear_64 hl (k := 2) rfl (congrArg (fun z => x2 + z) (by decide)) (Nat.le_of_ble_eq_true rfl) rfl (fun ls hl => ?_)
    refine lv_goto (tgt := 2) hx hb dX9_findNear_67 (by decide) ?_
    exact hk2 x1 (x2 + (1 : Int32)) v_nearTo _ _ _ (lv_sub hl [1, 2, 0] rfl) hG h
  have n19 : ∀ (k2 : Int32 → Int32 → (Nat → Int32) → Option ((Nat → Int32))) (hk2 : ∀ (x1 : Int32) (x2 : Int32) (v_nearTo : Nat → Int32) (H : Heap) (locs : List Loc) (ls : Array Slot), lv_has ls 4 [(0, .ref (g.2.1 50)), (1, .int x1), (2, .int x2)] → GW g s (mkS σ [] [] [(76, v_nearTo)] []) H locs → k2 x1 x2 v_nearTo = some w_nearTo → Wg p l e 0 0 s m args below meth c g none (mkS σ [] [] [(76, w_nearTo)] []) H locs (F0 m 2 ls [])) (k19 : Int32 → Int32 → Int32 → (Nat → Int32) → Option ((Nat → Int32))) (hk19 : ∀ (x1 : Int32) (x2 : Int32) (x3 : Int32) (v_nearTo : Nat → Int32) (H : Heap) (locs : List Loc) (ls : Array Slot), lv_has ls 4 [(0, .ref (g.2.1 50)), (1, .int x1), (2, .int x2), (3, .int x3)] → GW g s (mkS σ [] [] [(76, v_nearTo)] []) H locs → k19 x1 x2 x3 v_nearTo = some w_nearTo → Wg p l e 0 0 s m args below meth c g none (mkS σ [] [] [(76, w_nearTo)] []) H locs (F0 m 19 ls [])) (x1 : Int32) (x2 : Int32) (x3 : Int32) (v_nearTo : Nat → Int32) (H : Heap) (locs : List Loc) (ls : Array Slot), lv_has ls 4 [(0, .ref (g.2.1 50)), (1, .int x1), (2, .int x2), (3, .int x3)] → GW g s (mkS σ [] [] [(76, v_nearTo)] []) H locs → M_findNear_n19 k2 k19 (σ.1 3203) (σ.2.2.1 59) x1 x2 x3 v_nearTo = some w_nearTo → Wg p l e 0 0 s m args below meth c g none (mkS σ [] [] [(76, w_nearTo)] []) H locs (F0 m 19 ls []) := by
    intro k2 hk2 k19 hk19 x1 x2 x3 v_nearTo H locs ls hl hG h
    unfold M_findNear_n19 at h
    refine lv_iload_n hx hb dX9_findNear_19 rfl (lv_at hl 3 rfl) ?_
    refine lv_aload_n hx hb dX9_findNear_20 rfl (lv_at hl 0 rfl) ?_
    refine gx_get (v := .int (σ.1 3203)) (C := RX9) (T := TX9) (N := 44) hx hb hts mc_X9 hown hK hG (ga_50 g _) rfl 3 (by decide) hw0 rfl rfl dX9_findNear_21 ?_
    refine lv_icmp_ge (tgt := 64) hx hb dX9_findNear_24 (by decide) (fun c2 => ?_) (fun c2 => ?_)
    · have h := ite_t c2 h
      exact n64 k2 hk2 x1 x2 v_nearTo _ _ _ (lv_sub hl [0, 1, 2] rfl) hG h
    · have h := ite_f c2 h
      refine lv_aload_n hx hb dX9_findNear_27 rfl (lv_at hl 0 rfl) ?_
      refine gx_get (v := .ref (g.2.1 76)) (C := RX9) (T := TX9) (N := 44) hx hb hts mc_X9 hown hK hG (ga_50 g _) rfl 36 (by decide) hw1 rfl rfl dX9_findNear_28 ?_
      refine lv_iload_n hx hb dX9_findNear_31 rfl (lv_at hl 2 rfl) ?_
      refine lv_dup2_11 hx hb dX9_findNear_32 rfl rfl ?_
      obtain ⟨hg3, h⟩ := gd_some h
      refine gx_iald (f := v_nearTo) hx hb hK hG (ga_76 g _) hg3 dX9_findNear_33 ?_
      refine lv_aload_n hx hb dX9_findNear_34 rfl (lv_at hl 0 rfl) ?_
      refine gx_get (v := .ref (g.2.1 59)) (C := RX9) (T := TX9) (N := 44) hx hb hts mc_X9 hown hK hG (ga_50 g _) rfl 13 (by decide) hw2 rfl rfl dX9_findNear_35 ?_
      refine lv_bipush (v := (32 : Int32)) hx hb dX9_findNear_38 (by decide) ?_
      refine lv_iload_n hx hb dX9_findNear_40 rfl (lv_at hl 2 rfl) ?_
      refine lv_imul hx hb dX9_findNear_41 ?_
      refine lv_iload_n hx hb dX9_findNear_42 rfl (lv_at hl 3 rfl) ?_
      refine lv_iadd hx hb dX9_findNear_43 ?_
      obtain ⟨hg4, h⟩ := gd_some h
      refine gx_iald (f := (σ.2.2.1 59)) hx hb hK hG (ga_59 g _) hg4 dX9_findNear_44 ?_
      refine lv_iload_n hx hb dX9_findNear_45 rfl (lv_at hl 1 rfl) ?_
      refine lv_icmp_gt (tgt := 55) hx hb dX9_findNear_46 (by decide) (fun c5 => ?_) (fun c5 => ?_)
      · have h := ite_t c5 h
        refine lv_iconst (v := (0 : Int32)) hx hb dX9_findNear_55 (by decide) ?_
        exact n56 k19 hk19 x1 x2 x3 x2 (v_nearTo (x2.toNatClampNeg)) (0 : Int32) v_nearTo _ _ _ (lv_sub hl [0, 1, 2, 3] rfl) hG h
      · have h := ite_f c5 h
        refine lv_iconst (v := (1 : Int32)) hx hb dX9_findNear_49 (by decide) ?_
        refine lv_iload_n hx hb dX9_findNear_50 rfl (lv_at hl 3 rfl) ?_
        refine lv_ishl hx hb dX9_findNear_51 ?_
        refine lv_goto (tgt := 56) hx hb dX9_findNear_52 (by decide) ?_
        exact n56 k19 hk19 x1 x2 x3 x2 (v_nearTo (x2.toNatClampNeg)) ((1 : Int32) <<< (x3 &&& 31)) v_nearTo _ _ _ (lv_sub hl [0, 1, 2, 3] rfl) hG h
  have l19 : ∀ (k2 : Int32 → Int32 → (Nat → Int32) → Option ((Nat → Int32))) (hk2 : ∀ (x1 : Int32) (x2 : Int32) (v_nearTo : Nat → Int32) (H : Heap) (locs : List Loc) (ls : Array Slot), lv_has ls 4 [(0, .ref (g.2.1 50)), (1, .int x1), (2, .int x2)] → GW g s (mkS σ [] [] [(76, v_nearTo)] []) H locs → k2 x1 x2 v_nearTo = some w_nearTo → Wg p l e 0 0 s m args below meth c g none (mkS σ [] [] [(76, w_nearTo)] []) H locs (F0 m 2 ls [])) (F : Nat) (x1 : Int32) (x2 : Int32) (x3 : Int32) (v_nearTo : Nat → Int32) (H : Heap) (locs : List Loc) (ls : Array Slot), lv_has ls 4 [(0, .ref (g.2.1 50)), (1, .int x1), (2, .int x2), (3, .int x3)] → GW g s (mkS σ [] [] [(76, v_nearTo)] []) H locs → M_findNear_l19 k2 (σ.1 3203) (σ.2.2.1 59) F x1 x2 x3 v_nearTo = some w_nearTo → Wg p l e 0 0 s m args below meth c g none (mkS σ [] [] [(76, w_nearTo)] []) H locs (F0 m 19 ls []) := by
    intro k2 hk2 F
    induction F with
    | zero => intro x1 x2 x3 v_nearTo H locs ls hl hG h; exact no_some h
    | succ F ih => intro x1 x2 x3 v_nearTo H locs ls hl hG h; exact n19 k2 hk2 (fun x1 x2 x3 v_nearTo => M_findNear_l19 k2 (σ.1 3203) (σ.2.2.1 59) F x1 x2 x3 v_nearTo) ih x1 x2 x3 v_nearTo H locs ls hl hG h
  have n70 : ∀ (v_nearTo : Nat → Int32) (H : Heap) (locs : List Loc) (ls : Array Slot), lv_has ls 4 [] → GW g s (mkS σ [] [] [(76, v_nearTo)] []) H locs → M_findNear_n70 v_nearTo = some w_nearTo → Wg p l e 0 0 s m args below meth c g none (mkS σ [] [] [(76, w_nearTo)] []) H locs (F0 m 70 ls []) := by
    intro v_nearTo H locs ls hl hG h
    unfold M_findNear_n70 at h
    cases h
    exact gx_vret hx hb hr hlocks hG dX9_findNear_70
  have n2 : ∀ (k2 : Int32 → Int32 → (Nat → Int32) → Option ((Nat → Int32))) (hk2 : ∀ (x1 : Int32) (x2 : Int32) (v_nearTo : Nat → Int32) (H : Heap) (locs : List Loc) (ls : Array Slot), lv_has ls 4 [(0, .ref (g.2.1 50)), (1, .int x1), (2, .int x2)] → GW g s (mkS σ [] [] [(76, v_nearTo)] []) H locs → k2 x1 x2 v_nearTo = some w_nearTo → Wg p l e 0 0 s m args below meth c g none (mkS σ [] [] [(76, w_nearTo)] []) H locs (F0 m 2 ls [])) (x1 : Int32) (x2 : Int32) (v_nearTo : Nat → Int32) (H : Heap) (locs : List Loc) (ls : Array Slot), lv_has ls 4 [(0, .ref (g.2.1 50)), (1, .int x1), (2, .int x2)] → GW g s (mkS σ [] [] [(76, v_nearTo)] []) H locs → M_findNear_n2 k2 (σ.1 3203) (σ.2.2.1 59) x1 x2 v_nearTo = some w_nearTo → Wg p l e 0 0 s m args below meth c g none (mkS σ [] [] [(76, w_nearTo)] []) H locs (F0 m 2 ls []) := by
    intro k2 hk2 x1 x2 v_nearTo H locs ls hl hG h
    unfold M_findNear_n2 at h
    refine lv_iload_n hx hb dX9_findNear_2 rfl (lv_at hl 2 rfl) ?_
    refine lv_aload_n hx hb dX9_findNear_3 rfl (lv_at hl 0 rfl) ?_
    refine gx_get (v := .int (σ.1 3203)) (C := RX9) (T := TX9) (N := 44) hx hb hts mc_X9 hown hK hG (ga_50 g _) rfl 3 (by decide) hw0 rfl rfl dX9_findNear_4 ?_
    refine lv_icmp_ge (tgt := 70) hx hb dX9_findNear_7 (by decide) (fun c6 => ?_) (fun c6 => ?_)
    · have h := ite_t c6 h
      exact n70 v_nearTo _ _ _ (lv_sub hl [] rfl) hG h
    · have h := ite_f c6 h
      refine lv_aload_n hx hb dX9_findNear_10 rfl (lv_at hl 0 rfl) ?_
      refine gx_get (v := .ref (g.2.1 76)) (C := RX9) (T := TX9) (N := 44) hx hb hts mc_X9 hown hK hG (ga_50 g _) rfl 36 (by decide) hw1 rfl rfl dX9_findNear_11 ?_
      refine lv_iload_n hx hb dX9_findNear_14 rfl (lv_at hl 2 rfl) ?_
      refine lv_iconst (v := (0 : Int32)) hx hb dX9_findNear_15 (by decide) ?_
      obtain ⟨hg7, h⟩ := gd_some h
      refine gx_iast (σ' := (mkS σ [] [] [(76, (upd v_nearTo (x2.toNatClampNeg) (0 : Int32)))] [])) (f := v_nearTo) hx hb hK hG (ga_76 g _) hg7 ((gs_76 g _ _).trans (congrArg (g_cells g) (mk_c 0 rfl rfl))) dX9_findNear_16 (fun H locs hG => ?_)
      refine lv_iconst (v := (0 : Int32)) hx hb dX9_findNear_17 (by decide) ?_
      refine lv_istore_n (lv' := [(3, .int (0 : Int32)), (0, .ref (g.2.1 50)), (1, .int x1), (2, .int x2)]) hx hb dX9_findNear_18 rfl hl (Nat.le_of_ble_eq_true rfl) rfl (fun ls hl => ?_)
      exact l19 k2 hk2 FUEL x1 x2 (0 : Int32) (upd v_nearTo (x2.toNatClampNeg) (0 : Int32)) _ _ _ (lv_sub hl [1, 2, 3, 0] rfl) hG h
  have l2 : ∀  (F : Nat) (x1 : Int32) (x2 : Int32) (v_nearTo : Nat → Int32) (H : Heap) (locs : List Loc) (ls : Array Slot), lv_has ls 4 [(0, .ref (g.2.1 50)), (1, .int x1), (2, .int x2)] → GW g s (mkS σ [] [] [(76, v_nearTo)] []) H locs → M_findNear_l2 (σ.1 3203) (σ.2.2.1 59) F x1 x2 v_nearTo = some w_nearTo → Wg p l e 0 0 s m args below meth c g none (mkS σ [] [] [(76, w_nearTo)] []) H locs (F0 m 2 ls []) := by
    intro F
    induction F with
    | zero => intro x1 x2 v_nearTo H locs ls hl hG h; exact no_some h
    | succ F ih => intro x1 x2 v_nearTo H locs ls hl hG h; exact n2 (fun x1 x2 v_nearTo => M_findNear_l2 (σ.1 3203) (σ.2.2.1 59) F x1 x2 v_nearTo) ih x1 x2 v_nearTo H locs ls hl hG h
  refine lv_iconst (v := (0 : Int32)) hx hb dX9_findNear_0 (by decide) ?_
  refine lv_istore_n (lv' := [(2, .int (0 : Int32)), (0, .ref (g.2.1 50)), (1, .int x1)]) hx hb dX9_findNear_1 rfl hl (Nat.le_of_ble_eq_true rfl) rfl (fun ls hl => ?_)
  exact l2 FUEL x1 (0 : Int32) (σ.2.2.1 76) _ _ _ (lv_sub hl [1, 2, 0] rfl) hG h

set_option maxHeartbeats 4000000 in
set_option maxRecDepth 100000 in
theorem c_M_uncovered (l : Launch) (g : GC) (σ : St) (r : Int32) (h : M_uncovered (σ.1 3203) (σ.1 3235) (σ.2.2.1 77) = some r) : Cn l g yX9_uncovered (Cond.code yX9_uncovered cX9_uncovered 2 (some .int) :: wG) 0 0 [.ref (g.2.1 50)] σ (some (.int r)) σ := by
  unfold Cn
  refine Met.ofW (cc := cX9_uncovered) (maxL := 2) (ret := (some .int)) (by decide) rfl ?_
  intro p e s m args below meth c s₁ B hml hv
  obtain ⟨hargs, hP0, hK⟩ := hv
  have hx := B.exec
  have hb := B.bytes
  have hr := B.returns
  have hts : ∀ w ∈ wG, w.before args s = true := fun w h => atoms_spec (ws := (Cond.code yX9_uncovered cX9_uncovered 2 (some .int) :: wG)) B.pre w (List.mem_cons_of_mem _ h)
  have hown : s.vm.findClass RX9 = some m.cls := findClass_of_methodNamed B.named
  have hlocks := B.notSynchronized
  have hw0 := hts _ mw_4_142
  have hw1 := hts _ mw_4_176
  have hw2 := hts _ mw_4_174
  have hf9 : entryFrame m args 2 = _ := (congrArg (fun a => entryFrame m a 2) hargs).trans (lg_entry_eq m [.ref (g.2.1 50)] 2)
  show Wg p l e 0 0 s m args below meth c g (some (.int r)) σ s.heap [] (entryFrame m args 2)
  rw [hf9]
  have hl := lv_entry ([.ref (g.2.1 50)]) (n := 2) (Nat.le_of_ble_eq_true rfl)
  generalize (lg_sl ([.ref (g.2.1 50)]) ++ List.replicate (2 - (lg_sl ([.ref (g.2.1 50)])).length) Slot.unset).toArray = ls at hl ⊢
  have hl : lv_has ls 2 [(0, .ref (g.2.1 50))] := hl
  have hG : GW g s σ s.heap [] := ⟨hP0, va_S.rf⟩
  unfold M_uncovered at h
  have n33 : ∀ (x1 : Int32) (H : Heap) (locs : List Loc) (ls : Array Slot), lv_has ls 2 [(1, .int x1)] → GW g s σ H locs → M_uncovered_n33 x1 = some r → Wg p l e 0 0 s m args below meth c g (some (.int r)) σ H locs (F0 m 33 ls []) := by
    intro x1 H locs ls hl hG h
    unfold M_uncovered_n33 at h
    refine lv_iload_n hx hb dX9_uncovered_33 rfl (lv_at hl 0 rfl) ?_
    cases h
    exact gx_iret hx hb hr hlocks hG dX9_uncovered_34
  have n2 : ∀ (k2 : Int32 → Option (Int32)) (hk2 : ∀ (x1 : Int32) (H : Heap) (locs : List Loc) (ls : Array Slot), lv_has ls 2 [(0, .ref (g.2.1 50)), (1, .int x1)] → GW g s σ H locs → k2 x1 = some r → Wg p l e 0 0 s m args below meth c g (some (.int r)) σ H locs (F0 m 2 ls [])) (x1 : Int32) (H : Heap) (locs : List Loc) (ls : Array Slot), lv_has ls 2 [(0, .ref (g.2.1 50)), (1, .int x1)] → GW g s σ H locs → M_uncovered_n2 k2 (σ.1 3203) (σ.1 3235) (σ.2.2.1 77) x1 = some r → Wg p l e 0 0 s m args below meth c g (some (.int r)) σ H locs (F0 m 2 ls []) := by
    intro k2 hk2 x1 H locs ls hl hG h
    unfold M_uncovered_n2 at h
    refine lv_iload_n hx hb dX9_uncovered_2 rfl (lv_at hl 1 rfl) ?_
    refine lv_aload_n hx hb dX9_uncovered_3 rfl (lv_at hl 0 rfl) ?_
    refine gx_get (v := .int (σ.1 3203)) (C := RX9) (T := TX9) (N := 44) hx hb hts mc_X9 hown hK hG (ga_50 g _) rfl 3 (by decide) hw0 rfl rfl dX9_uncovered_4 ?_
    refine lv_icmp_ge (tgt := 33) hx hb dX9_uncovered_7 (by decide) (fun c1 => ?_) (fun c1 => ?_)
    · have h := ite_t c1 h
      exact n33 x1 _ _ _ (lv_sub hl [1] rfl) hG h
    · have h := ite_f c1 h
      refine lv_aload_n hx hb dX9_uncovered_10 rfl (lv_at hl 0 rfl) ?_
      refine gx_get (v := .ref (g.2.1 77)) (C := RX9) (T := TX9) (N := 44) hx hb hts mc_X9 hown hK hG (ga_50 g _) rfl 37 (by decide) hw1 rfl rfl dX9_uncovered_11 ?_
      refine lv_aload_n hx hb dX9_uncovered_14 rfl (lv_at hl 0 rfl) ?_
      refine gx_get (v := .int (σ.1 3235)) (C := RX9) (T := TX9) (N := 44) hx hb hts mc_X9 hown hK hG (ga_50 g _) rfl 35 (by decide) hw2 rfl rfl dX9_uncovered_15 ?_
      obtain ⟨hg2, h⟩ := gd_some h
      refine gx_iald (f := (σ.2.2.1 77)) hx hb hK hG (ga_77 g _) hg2 dX9_uncovered_18 ?_
      refine lv_iload_n hx hb dX9_uncovered_19 rfl (lv_at hl 1 rfl) ?_
      refine lv_ishr hx hb dX9_uncovered_20 ?_
      refine lv_iconst (v := (1 : Int32)) hx hb dX9_uncovered_21 (by decide) ?_
      refine lv_iand hx hb dX9_uncovered_22 ?_
      refine lv_iconst (v := (1 : Int32)) hx hb dX9_uncovered_23 (by decide) ?_
      refine lv_icmp_ne (tgt := 33) hx hb dX9_uncovered_24 (by decide) (fun c3 => ?_) (fun c3 => ?_)
      · have h := ite_f c3 h
        exact n33 x1 _ _ _ (lv_sub hl [1] rfl) hG h
      · have h := ite_t c3 h
        refine lv_iinc (v := (x1 + (1 : Int32))) (lv' := [(1, .int (x1 + (1 : Int32))), (0, .ref (g.2.1 50))]) hx hb dX9_uncovered_27 hl (k := 1) rfl (congrArg (fun z => x1 + z) (by decide)) (Nat.le_of_ble_eq_true rfl) rfl (fun ls hl => ?_)
        refine lv_goto (tgt := 2) hx hb dX9_uncovered_30 (by decide) ?_
        exact hk2 (x1 + (1 : Int32)) _ _ _ (lv_sub hl [1, 0] rfl) hG h
  have l2 : ∀  (F : Nat) (x1 : Int32) (H : Heap) (locs : List Loc) (ls : Array Slot), lv_has ls 2 [(0, .ref (g.2.1 50)), (1, .int x1)] → GW g s σ H locs → M_uncovered_l2 (σ.1 3203) (σ.1 3235) (σ.2.2.1 77) F x1 = some r → Wg p l e 0 0 s m args below meth c g (some (.int r)) σ H locs (F0 m 2 ls []) := by
    intro F
    induction F with
    | zero => intro x1 H locs ls hl hG h; exact no_some h
    | succ F ih => intro x1 H locs ls hl hG h; exact n2 (fun x1 => M_uncovered_l2 (σ.1 3203) (σ.1 3235) (σ.2.2.1 77) F x1) ih x1 H locs ls hl hG h
  refine lv_iconst (v := (0 : Int32)) hx hb dX9_uncovered_0 (by decide) ?_
  refine lv_istore_n (lv' := [(1, .int (0 : Int32)), (0, .ref (g.2.1 50))]) hx hb dX9_uncovered_1 rfl hl (Nat.le_of_ble_eq_true rfl) rfl (fun ls hl => ?_)
  exact l2 FUEL (0 : Int32) _ _ _ (lv_sub hl [1, 0] rfl) hG h

set_option maxHeartbeats 4000000 in
set_option maxRecDepth 100000 in
theorem c_M_find (l : Launch) (g : GC) (σ : St) (x1 : Int32) (r : Int32) (w_far : Int32) (w_heaps : Int32) (w_isMeasured : Int32) (w_takenMany : Int32) (w_coveredAt : Nat → Int32) (w_nearTo : Nat → Int32) (w_taken : Nat → Int32) (w_tried : Nat → Int32) (w_wayOf : Nat → Int32) (h : M_find x1 (σ.1 3214) (σ.1 3215) (σ.1 3212) (σ.1 3203) (σ.1 3235) (σ.2.2.1 77) (σ.2.2.1 76) (σ.2.2.1 54) (σ.2.2.1 74) (σ.2.2.1 75) (σ.2.2.1 59) = some (r, w_far, w_heaps, w_isMeasured, w_takenMany, w_coveredAt, w_nearTo, w_taken, w_tried, w_wayOf)) : Cn l g yX9_find (Cond.code yX9_find cX9_find 5 (some .int) :: wG) 2 47 [.ref (g.2.1 50), .int x1] σ (some (.int r)) (mkS σ [(3214, w_far), (3215, w_heaps), (3212, w_isMeasured), (3235, w_takenMany)] [] [(77, w_coveredAt), (76, w_nearTo), (74, w_taken), (75, w_tried), (59, w_wayOf)] []) := by
  unfold Cn
  refine Met.ofW (cc := cX9_find) (maxL := 5) (ret := (some .int)) (by decide) rfl ?_
  intro p e s m args below meth c s₁ B hml hv
  obtain ⟨hargs, hP0, hK⟩ := hv
  have hx := B.exec
  have hb := B.bytes
  have hr := B.returns
  have hts : ∀ w ∈ wG, w.before args s = true := fun w h => atoms_spec (ws := (Cond.code yX9_find cX9_find 5 (some .int) :: wG)) B.pre w (List.mem_cons_of_mem _ h)
  have hown : s.vm.findClass RX9 = some m.cls := findClass_of_methodNamed B.named
  have hlocks := B.notSynchronized
  have hS9 : CallFix p m c cX9_find 5 s args wG RX9 := ⟨hx, hb, hml, hown, hts⟩
  have hw0 := hts _ mw_4_173
  have hw1 := hts _ mw_4_174
  have hw2 := hts _ mw_4_142
  have hw3 := hts _ mw_4_172
  have hw4 := hts _ mw_4_176
  have hw5 := hts _ mw_4_175
  have hw6 := hts _ mw_6_33
  have hf9 : entryFrame m args 5 = _ := (congrArg (fun a => entryFrame m a 5) hargs).trans (lg_entry_eq m [.ref (g.2.1 50), .int x1] 5)
  show Wg p l e 2 47 s m args below meth c g (some (.int r)) (mkS σ [(3214, w_far), (3215, w_heaps), (3212, w_isMeasured), (3235, w_takenMany)] [] [(77, w_coveredAt), (76, w_nearTo), (74, w_taken), (75, w_tried), (59, w_wayOf)] []) s.heap [] (entryFrame m args 5)
  rw [hf9]
  have hl := lv_entry ([.ref (g.2.1 50), .int x1]) (n := 5) (Nat.le_of_ble_eq_true rfl)
  generalize (lg_sl ([.ref (g.2.1 50), .int x1]) ++ List.replicate (5 - (lg_sl ([.ref (g.2.1 50), .int x1])).length) Slot.unset).toArray = ls at hl ⊢
  have hl : lv_has ls 5 [(0, .ref (g.2.1 50)), (1, .int x1)] := hl
  have hG : GW g s σ s.heap [] := ⟨hP0, va_S.rf⟩
  have hG : GW g s (mkS σ [(3214, (σ.1 3214)), (3215, (σ.1 3215)), (3212, (σ.1 3212)), (3235, (σ.1 3235))] [] [(77, (σ.2.2.1 77)), (76, (σ.2.2.1 76)), (74, (σ.2.2.1 74)), (75, (σ.2.2.1 75)), (59, (σ.2.2.1 59))] []) s.heap [] := GW_self [3214, 3215, 3212, 3235] [] [77, 76, 74, 75, 59] [] hG
  unfold M_find at h
  have n74 : ∀ (v_far : Int32) (v_heaps : Int32) (v_isMeasured : Int32) (v_takenMany : Int32) (v_coveredAt : Nat → Int32) (v_nearTo : Nat → Int32) (v_taken : Nat → Int32) (v_tried : Nat → Int32) (v_wayOf : Nat → Int32) (H : Heap) (locs : List Loc) (ls : Array Slot), lv_has ls 5 [] → GW g s (mkS σ [(3214, v_far), (3215, v_heaps), (3212, v_isMeasured), (3235, v_takenMany)] [] [(77, v_coveredAt), (76, v_nearTo), (74, v_taken), (75, v_tried), (59, v_wayOf)] []) H locs → M_find_n74 v_far v_heaps v_isMeasured v_takenMany v_coveredAt v_nearTo v_taken v_tried v_wayOf = some (r, w_far, w_heaps, w_isMeasured, w_takenMany, w_coveredAt, w_nearTo, w_taken, w_tried, w_wayOf) → Wg p l e 2 47 s m args below meth c g (some (.int r)) (mkS σ [(3214, w_far), (3215, w_heaps), (3212, w_isMeasured), (3235, w_takenMany)] [] [(77, w_coveredAt), (76, w_nearTo), (74, w_taken), (75, w_tried), (59, w_wayOf)] []) H locs (F0 m 74 ls []) := by
    intro v_far v_heaps v_isMeasured v_takenMany v_coveredAt v_nearTo v_taken v_tried v_wayOf H locs ls hl hG h
    unfold M_find_n74 at h
    refine lv_iconst (v := (0 : Int32)) hx hb dX9_find_74 (by decide) ?_
    cases h
    exact gx_iret hx hb hr hlocks hG dX9_find_75
  have n132 : ∀ (k89 : Int32 → Int32 → Int32 → Int32 → Int32 → Int32 → Int32 → (Nat → Int32) → (Nat → Int32) → (Nat → Int32) → (Nat → Int32) → (Nat → Int32) → Option (Int32 × Int32 × Int32 × Int32 × Int32 × (Nat → Int32) × (Nat → Int32) × (Nat → Int32) × (Nat → Int32) × (Nat → Int32))) (hk89 : ∀ (x2 : Int32) (x3 : Int32) (x4 : Int32) (v_far : Int32) (v_heaps : Int32) (v_isMeasured : Int32) (v_takenMany : Int32) (v_coveredAt : Nat → Int32) (v_nearTo : Nat → Int32) (v_taken : Nat → Int32) (v_tried : Nat → Int32) (v_wayOf : Nat → Int32) (H : Heap) (locs : List Loc) (ls : Array Slot), lv_has ls 5 [(0, .ref (g.2.1 50)), (2, .int x2), (3, .int x3), (4, .int x4)] → GW g s (mkS σ [(3214, v_far), (3215, v_heaps), (3212, v_isMeasured), (3235, v_takenMany)] [] [(77, v_coveredAt), (76, v_nearTo), (74, v_taken), (75, v_tried), (59, v_wayOf)] []) H locs → k89 x2 x3 x4 v_far v_heaps v_isMeasured v_takenMany v_coveredAt v_nearTo v_taken v_tried v_wayOf = some (r, w_far, w_heaps, w_isMeasured, w_takenMany, w_coveredAt, w_nearTo, w_taken, w_tried, w_wayOf) → Wg p l e 2 47 s m args below meth c g (some (.int r)) (mkS σ [(3214, w_far), (3215, w_heaps), (3212, w_isMeasured), (3235, w_takenMany)] [] [(77, w_coveredAt), (76, w_nearTo), (74, w_taken), (75, w_tried), (59, w_wayOf)] []) H locs (F0 m 89 ls [])) (x2 : Int32) (x3 : Int32) (x4 : Int32) (v_far : Int32) (v_heaps : Int32) (v_isMeasured : Int32) (v_takenMany : Int32) (v_coveredAt : Nat → Int32) (v_nearTo : Nat → Int32) (v_taken : Nat → Int32) (v_tried : Nat → Int32) (v_wayOf : Nat → Int32) (H : Heap) (locs : List Loc) (ls : Array Slot), lv_has ls 5 [(0, .ref (g.2.1 50)), (2, .int x2), (3, .int x3), (4, .int x4)] → GW g s (mkS σ [(3214, v_far), (3215, v_heaps), (3212, v_isMeasured), (3235, v_takenMany)] [] [(77, v_coveredAt), (76, v_nearTo), (74, v_taken), (75, v_tried), (59, v_wayOf)] []) H locs → M_find_n132 k89 x2 x3 x4 v_far v_heaps v_isMeasured v_takenMany v_coveredAt v_nearTo v_taken v_tried v_wayOf = some (r, w_far, w_heaps, w_isMeasured, w_takenMany, w_coveredAt, w_nearTo, w_taken, w_tried, w_wayOf) → Wg p l e 2 47 s m args below meth c g (some (.int r)) (mkS σ [(3214, w_far), (3215, w_heaps), (3212, w_isMeasured), (3235, w_takenMany)] [] [(77, w_coveredAt), (76, w_nearTo), (74, w_taken), (75, w_tried), (59, w_wayOf)] []) H locs (F0 m 132 ls []) := by
    intro k89 hk89 x2 x3 x4 v_far v_heaps v_isMeasured v_takenMany v_coveredAt v_nearTo v_taken v_tried v_wayOf H locs ls hl hG h
    unfold M_find_n132 at h
    refine lv_iinc (v := (x4 + (1 : Int32))) (lv' := [(4, .int (x4 + (1 : Int32))), (0, .ref (g.2.1 50)), (2, .int x2), (3, .int x3)]) hx hb dX9_find_132 hl (k := 3) rfl (congrArg (fun z => x4 + z) (by decide)) (Nat.le_of_ble_eq_true rfl) rfl (fun ls hl => ?_)
    refine lv_goto (tgt := 89) hx hb dX9_find_135 (by decide) ?_
    exact hk89 x2 x3 (x4 + (1 : Int32)) v_far v_heaps v_isMeasured v_takenMany v_coveredAt v_nearTo v_taken v_tried v_wayOf _ _ _ (lv_sub hl [1, 2, 3, 0] rfl) hG h
  have n178 : ∀ (v_far : Int32) (v_heaps : Int32) (v_isMeasured : Int32) (v_takenMany : Int32) (v_coveredAt : Nat → Int32) (v_nearTo : Nat → Int32) (v_taken : Nat → Int32) (v_tried : Nat → Int32) (v_wayOf : Nat → Int32) (H : Heap) (locs : List Loc) (ls : Array Slot), lv_has ls 5 [] → GW g s (mkS σ [(3214, v_far), (3215, v_heaps), (3212, v_isMeasured), (3235, v_takenMany)] [] [(77, v_coveredAt), (76, v_nearTo), (74, v_taken), (75, v_tried), (59, v_wayOf)] []) H locs → M_find_n178 v_far v_heaps v_isMeasured v_takenMany v_coveredAt v_nearTo v_taken v_tried v_wayOf = some (r, w_far, w_heaps, w_isMeasured, w_takenMany, w_coveredAt, w_nearTo, w_taken, w_tried, w_wayOf) → Wg p l e 2 47 s m args below meth c g (some (.int r)) (mkS σ [(3214, w_far), (3215, w_heaps), (3212, w_isMeasured), (3235, w_takenMany)] [] [(77, w_coveredAt), (76, w_nearTo), (74, w_taken), (75, w_tried), (59, w_wayOf)] []) H locs (F0 m 178 ls []) := by
    intro v_far v_heaps v_isMeasured v_takenMany v_coveredAt v_nearTo v_taken v_tried v_wayOf H locs ls hl hG h
    unfold M_find_n178 at h
    refine lv_bipush (v := (-7 : Int32)) hx hb dX9_find_178 (by decide) ?_
    cases h
    exact gx_iret hx hb hr hlocks hG dX9_find_180
  have n243 : ∀ (k54 : Int32 → Int32 → Int32 → Int32 → Int32 → (Nat → Int32) → (Nat → Int32) → (Nat → Int32) → (Nat → Int32) → (Nat → Int32) → Option (Int32 × Int32 × Int32 × Int32 × Int32 × (Nat → Int32) × (Nat → Int32) × (Nat → Int32) × (Nat → Int32) × (Nat → Int32))) (hk54 : ∀ (x2 : Int32) (v_far : Int32) (v_heaps : Int32) (v_isMeasured : Int32) (v_takenMany : Int32) (v_coveredAt : Nat → Int32) (v_nearTo : Nat → Int32) (v_taken : Nat → Int32) (v_tried : Nat → Int32) (v_wayOf : Nat → Int32) (H : Heap) (locs : List Loc) (ls : Array Slot), lv_has ls 5 [(0, .ref (g.2.1 50)), (2, .int x2)] → GW g s (mkS σ [(3214, v_far), (3215, v_heaps), (3212, v_isMeasured), (3235, v_takenMany)] [] [(77, v_coveredAt), (76, v_nearTo), (74, v_taken), (75, v_tried), (59, v_wayOf)] []) H locs → k54 x2 v_far v_heaps v_isMeasured v_takenMany v_coveredAt v_nearTo v_taken v_tried v_wayOf = some (r, w_far, w_heaps, w_isMeasured, w_takenMany, w_coveredAt, w_nearTo, w_taken, w_tried, w_wayOf) → Wg p l e 2 47 s m args below meth c g (some (.int r)) (mkS σ [(3214, w_far), (3215, w_heaps), (3212, w_isMeasured), (3235, w_takenMany)] [] [(77, w_coveredAt), (76, w_nearTo), (74, w_taken), (75, w_tried), (59, w_wayOf)] []) H locs (F0 m 54 ls [])) (x2 : Int32) (v_far : Int32) (v_heaps : Int32) (v_isMeasured : Int32) (v_takenMany : Int32) (v_coveredAt : Nat → Int32) (v_nearTo : Nat → Int32) (v_taken : Nat → Int32) (v_tried : Nat → Int32) (v_wayOf : Nat → Int32) (H : Heap) (locs : List Loc) (ls : Array Slot), lv_has ls 5 [(0, .ref (g.2.1 50)), (2, .int x2)] → GW g s (mkS σ [(3214, v_far), (3215, v_heaps), (3212, v_isMeasured), (3235, v_takenMany)] [] [(77, v_coveredAt), (76, v_nearTo), (74, v_taken), (75, v_tried), (59, v_wayOf)] []) H locs → M_find_n243 k54 x2 v_far v_heaps v_isMeasured v_takenMany v_coveredAt v_nearTo v_taken v_tried v_wayOf = some (r, w_far, w_heaps, w_isMeasured, w_takenMany, w_coveredAt, w_nearTo, w_taken, w_tried, w_wayOf) → Wg p l e 2 47 s m args below meth c g (some (.int r)) (mkS σ [(3214, w_far), (3215, w_heaps), (3212, w_isMeasured), (3235, w_takenMany)] [] [(77, w_coveredAt), (76, w_nearTo), (74, w_taken), (75, w_tried), (59, w_wayOf)] []) H locs (F0 m 243 ls []) := by
    intro k54 hk54 x2 v_far v_heaps v_isMeasured v_takenMany v_coveredAt v_nearTo v_taken v_tried v_wayOf H locs ls hl hG h
    unfold M_find_n243 at h
    refine lv_goto (tgt := 54) hx hb dX9_find_243 (by decide) ?_
    exact hk54 x2 v_far v_heaps v_isMeasured v_takenMany v_coveredAt v_nearTo v_taken v_tried v_wayOf _ _ _ (lv_sub hl [0, 1] rfl) hG h
  have n138 : ∀ (k54 : Int32 → Int32 → Int32 → Int32 → Int32 → (Nat → Int32) → (Nat → Int32) → (Nat → Int32) → (Nat → Int32) → (Nat → Int32) → Option (Int32 × Int32 × Int32 × Int32 × Int32 × (Nat → Int32) × (Nat → Int32) × (Nat → Int32) × (Nat → Int32) × (Nat → Int32))) (hk54 : ∀ (x2 : Int32) (v_far : Int32) (v_heaps : Int32) (v_isMeasured : Int32) (v_takenMany : Int32) (v_coveredAt : Nat → Int32) (v_nearTo : Nat → Int32) (v_taken : Nat → Int32) (v_tried : Nat → Int32) (v_wayOf : Nat → Int32) (H : Heap) (locs : List Loc) (ls : Array Slot), lv_has ls 5 [(0, .ref (g.2.1 50)), (2, .int x2)] → GW g s (mkS σ [(3214, v_far), (3215, v_heaps), (3212, v_isMeasured), (3235, v_takenMany)] [] [(77, v_coveredAt), (76, v_nearTo), (74, v_taken), (75, v_tried), (59, v_wayOf)] []) H locs → k54 x2 v_far v_heaps v_isMeasured v_takenMany v_coveredAt v_nearTo v_taken v_tried v_wayOf = some (r, w_far, w_heaps, w_isMeasured, w_takenMany, w_coveredAt, w_nearTo, w_taken, w_tried, w_wayOf) → Wg p l e 2 47 s m args below meth c g (some (.int r)) (mkS σ [(3214, w_far), (3215, w_heaps), (3212, w_isMeasured), (3235, w_takenMany)] [] [(77, w_coveredAt), (76, w_nearTo), (74, w_taken), (75, w_tried), (59, w_wayOf)] []) H locs (F0 m 54 ls [])) (x2 : Int32) (x4 : Int32) (v_far : Int32) (v_heaps : Int32) (v_isMeasured : Int32) (v_takenMany : Int32) (v_coveredAt : Nat → Int32) (v_nearTo : Nat → Int32) (v_taken : Nat → Int32) (v_tried : Nat → Int32) (v_wayOf : Nat → Int32) (H : Heap) (locs : List Loc) (ls : Array Slot), lv_has ls 5 [(0, .ref (g.2.1 50)), (2, .int x2), (4, .int x4)] → GW g s (mkS σ [(3214, v_far), (3215, v_heaps), (3212, v_isMeasured), (3235, v_takenMany)] [] [(77, v_coveredAt), (76, v_nearTo), (74, v_taken), (75, v_tried), (59, v_wayOf)] []) H locs → M_find_n138 k54 (σ.1 3203) x2 x4 v_far v_heaps v_isMeasured v_takenMany v_coveredAt v_nearTo v_taken v_tried v_wayOf = some (r, w_far, w_heaps, w_isMeasured, w_takenMany, w_coveredAt, w_nearTo, w_taken, w_tried, w_wayOf) → Wg p l e 2 47 s m args below meth c g (some (.int r)) (mkS σ [(3214, w_far), (3215, w_heaps), (3212, w_isMeasured), (3235, w_takenMany)] [] [(77, w_coveredAt), (76, w_nearTo), (74, w_taken), (75, w_tried), (59, w_wayOf)] []) H locs (F0 m 138 ls []) := by
    intro k54 hk54 x2 x4 v_far v_heaps v_isMeasured v_takenMany v_coveredAt v_nearTo v_taken v_tried v_wayOf H locs ls hl hG h
    unfold M_find_n138 at h
    refine lv_aload_n hx hb dX9_find_138 rfl (lv_at hl 0 rfl) ?_
    refine gx_get (v := .ref (g.2.1 75)) (C := RX9) (T := TX9) (N := 44) hx hb hts mc_X9 hown hK hG (ga_50 g _) rfl 34 (by decide) hw0 rfl rfl dX9_find_139 ?_
    refine lv_aload_n hx hb dX9_find_142 rfl (lv_at hl 0 rfl) ?_
    refine gx_get (v := .int v_takenMany) (C := RX9) (T := TX9) (N := 44) hx hb hts mc_X9 hown hK hG (ga_50 g _) rfl 35 (by decide) hw1 rfl rfl dX9_find_143 ?_
    refine lv_iload hx hb dX9_find_146 (lv_at hl 2 rfl) ?_
    obtain ⟨hg1, h⟩ := gd_some h
    refine gx_iast (σ' := (mkS σ [(3214, v_far), (3215, v_heaps), (3212, v_isMeasured), (3235, v_takenMany)] [] [(77, v_coveredAt), (76, v_nearTo), (74, v_taken), (75, (upd v_tried (v_takenMany.toNatClampNeg) x4)), (59, v_wayOf)] [])) (f := v_tried) hx hb hK hG (ga_75 g _) hg1 ((gs_75 g _ _).trans (congrArg (g_cells g) (mk_c 3 rfl rfl))) dX9_find_148 (fun H locs hG => ?_)
    refine lv_iload hx hb dX9_find_149 (lv_at hl 2 rfl) ?_
    refine lv_aload_n hx hb dX9_find_151 rfl (lv_at hl 0 rfl) ?_
    refine gx_get (v := .int (σ.1 3203)) (C := RX9) (T := TX9) (N := 44) hx hb hts mc_X9 hown hK hG (ga_50 g _) rfl 3 (by decide) hw2 rfl rfl dX9_find_152 ?_
    refine lv_icmp_ne (tgt := 171) hx hb dX9_find_155 (by decide) (fun c2 => ?_) (fun c2 => ?_)
    · have h := ite_f c2 h
      refine lv_iload_n hx hb dX9_find_171 rfl (lv_at hl 1 rfl) ?_
      refine lv_sipush (v := (20000 : Int32)) hx hb dX9_find_172 (by decide) ?_
      refine lv_icmp_ne (tgt := 181) hx hb dX9_find_175 (by decide) (fun c3 => ?_) (fun c3 => ?_)
      · have h := ite_f c3 h
        refine lv_iinc (v := (x2 + (1 : Int32))) (lv' := [(2, .int (x2 + (1 : Int32))), (0, .ref (g.2.1 50)), (4, .int x4)]) hx hb dX9_find_181 hl (k := 1) rfl (congrArg (fun z => x2 + z) (by decide)) (Nat.le_of_ble_eq_true rfl) rfl (fun ls hl => ?_)
        refine lv_aload_n hx hb dX9_find_184 rfl (lv_at hl 1 rfl) ?_
        refine gx_get (v := .ref (g.2.1 74)) (C := RX9) (T := TX9) (N := 44) hx hb hts mc_X9 hown hK hG (ga_50 g _) rfl 33 (by decide) hw3 rfl rfl dX9_find_185 ?_
        refine lv_aload_n hx hb dX9_find_188 rfl (lv_at hl 1 rfl) ?_
        refine gx_get (v := .int v_takenMany) (C := RX9) (T := TX9) (N := 44) hx hb hts mc_X9 hown hK hG (ga_50 g _) rfl 35 (by decide) hw1 rfl rfl dX9_find_189 ?_
        refine lv_iload hx hb dX9_find_192 (lv_at hl 2 rfl) ?_
        refine gx_iast (σ' := (mkS σ [(3214, v_far), (3215, v_heaps), (3212, v_isMeasured), (3235, v_takenMany)] [] [(77, v_coveredAt), (76, v_nearTo), (74, (upd v_taken (v_takenMany.toNatClampNeg) x4)), (75, (upd v_tried (v_takenMany.toNatClampNeg) x4)), (59, v_wayOf)] [])) (f := v_taken) hx hb hK hG (ga_74 g _) hg1 ((gs_74 g _ _).trans (congrArg (g_cells g) (mk_c 2 rfl rfl))) dX9_find_194 (fun H locs hG => ?_)
        refine lv_aload_n hx hb dX9_find_195 rfl (lv_at hl 1 rfl) ?_
        refine gx_get (v := .ref (g.2.1 77)) (C := RX9) (T := TX9) (N := 44) hx hb hts mc_X9 hown hK hG (ga_50 g _) rfl 37 (by decide) hw4 rfl rfl dX9_find_196 ?_
        refine lv_aload_n hx hb dX9_find_199 rfl (lv_at hl 1 rfl) ?_
        refine gx_get (v := .int v_takenMany) (C := RX9) (T := TX9) (N := 44) hx hb hts mc_X9 hown hK hG (ga_50 g _) rfl 35 (by decide) hw1 rfl rfl dX9_find_200 ?_
        refine lv_iconst (v := (1 : Int32)) hx hb dX9_find_203 (by decide) ?_
        refine lv_iadd hx hb dX9_find_204 ?_
        refine lv_aload_n hx hb dX9_find_205 rfl (lv_at hl 1 rfl) ?_
        refine gx_get (v := .ref (g.2.1 77)) (C := RX9) (T := TX9) (N := 44) hx hb hts mc_X9 hown hK hG (ga_50 g _) rfl 37 (by decide) hw4 rfl rfl dX9_find_206 ?_
        refine lv_aload_n hx hb dX9_find_209 rfl (lv_at hl 1 rfl) ?_
        refine gx_get (v := .int v_takenMany) (C := RX9) (T := TX9) (N := 44) hx hb hts mc_X9 hown hK hG (ga_50 g _) rfl 35 (by decide) hw1 rfl rfl dX9_find_210 ?_
        refine gx_iald (f := v_coveredAt) hx hb hK hG (ga_77 g _) hg1 dX9_find_213 ?_
        refine lv_aload_n hx hb dX9_find_214 rfl (lv_at hl 1 rfl) ?_
        refine gx_get (v := .ref (g.2.1 76)) (C := RX9) (T := TX9) (N := 44) hx hb hts mc_X9 hown hK hG (ga_50 g _) rfl 36 (by decide) hw5 rfl rfl dX9_find_215 ?_
        refine lv_iload hx hb dX9_find_218 (lv_at hl 2 rfl) ?_
        obtain ⟨hg4, h⟩ := gd_some h
        refine gx_iald (f := v_nearTo) hx hb hK hG (ga_76 g _) hg4 dX9_find_220 ?_
        refine lv_ior hx hb dX9_find_221 ?_
        obtain ⟨hg5, h⟩ := gd_some h
        refine gx_iast (σ' := (mkS σ [(3214, v_far), (3215, v_heaps), (3212, v_isMeasured), (3235, v_takenMany)] [] [(77, (upd v_coveredAt ((v_takenMany + (1 : Int32)).toNatClampNeg) ((v_coveredAt (v_takenMany.toNatClampNeg)) ||| (v_nearTo (x4.toNatClampNeg))))), (76, v_nearTo), (74, (upd v_taken (v_takenMany.toNatClampNeg) x4)), (75, (upd v_tried (v_takenMany.toNatClampNeg) x4)), (59, v_wayOf)] [])) (f := v_coveredAt) hx hb hK hG (ga_77 g _) hg5 ((gs_77 g _ _).trans (congrArg (g_cells g) (mk_c 0 rfl rfl))) dX9_find_222 (fun H locs hG => ?_)
        refine lv_aload_n hx hb dX9_find_223 rfl (lv_at hl 1 rfl) ?_
        refine lv_dup hx hb dX9_find_224 rfl ?_
        refine gx_get (v := .int v_takenMany) (C := RX9) (T := TX9) (N := 44) hx hb hts mc_X9 hown hK hG (ga_50 g _) rfl 35 (by decide) hw1 rfl rfl dX9_find_225 ?_
        refine lv_iconst (v := (1 : Int32)) hx hb dX9_find_228 (by decide) ?_
        refine lv_iadd hx hb dX9_find_229 ?_
        refine gx_put (σ' := (mkS σ [(3214, v_far), (3215, v_heaps), (3212, v_isMeasured), (3235, (v_takenMany + (1 : Int32)))] [] [(77, (upd v_coveredAt ((v_takenMany + (1 : Int32)).toNatClampNeg) ((v_coveredAt (v_takenMany.toNatClampNeg)) ||| (v_nearTo (x4.toNatClampNeg))))), (76, v_nearTo), (74, (upd v_taken (v_takenMany.toNatClampNeg) x4)), (75, (upd v_tried (v_takenMany.toNatClampNeg) x4)), (59, v_wayOf)] [])) (C := RX9) (T := TX9) (N := 44) hx hb hts mc_X9 tyX9 tyX9_ok nmX9 hown hK hG (ga_50 g _) rfl 35 (by decide) hw1 rfl rfl rfl rfl (Nat.le_of_ble_eq_true rfl) ((gf_3235 g _ _).trans (congrArg (g_cells g) (mk_a 3 rfl rfl))) dX9_find_230 (fun H locs hG => ?_)
        refine lv_aload_n hx hb dX9_find_233 rfl (lv_at hl 1 rfl) ?_
        refine gx_get (v := .ref (g.2.1 75)) (C := RX9) (T := TX9) (N := 44) hx hb hts mc_X9 hown hK hG (ga_50 g _) rfl 34 (by decide) hw0 rfl rfl dX9_find_234 ?_
        refine lv_aload_n hx hb dX9_find_237 rfl (lv_at hl 1 rfl) ?_
        refine gx_get (v := .int (v_takenMany + (1 : Int32))) (C := RX9) (T := TX9) (N := 44) hx hb hts mc_X9 hown hK hG (ga_50 g _) rfl 35 (by decide) hw1 rfl rfl dX9_find_238 ?_
        refine lv_iconst (v := (-1 : Int32)) hx hb dX9_find_241 (by decide) ?_
        refine gx_iast (σ' := (mkS σ [(3214, v_far), (3215, v_heaps), (3212, v_isMeasured), (3235, (v_takenMany + (1 : Int32)))] [] [(77, (upd v_coveredAt ((v_takenMany + (1 : Int32)).toNatClampNeg) ((v_coveredAt (v_takenMany.toNatClampNeg)) ||| (v_nearTo (x4.toNatClampNeg))))), (76, v_nearTo), (74, (upd v_taken (v_takenMany.toNatClampNeg) x4)), (75, (upd (upd v_tried (v_takenMany.toNatClampNeg) x4) ((v_takenMany + (1 : Int32)).toNatClampNeg) (-1 : Int32))), (59, v_wayOf)] [])) (f := (upd v_tried (v_takenMany.toNatClampNeg) x4)) hx hb hK hG (ga_75 g _) hg5 ((gs_75 g _ _).trans (congrArg (g_cells g) (mk_c 3 rfl rfl))) dX9_find_242 (fun H locs hG => ?_)
        exact n243 k54 hk54 (x2 + (1 : Int32)) v_far v_heaps v_isMeasured (v_takenMany + (1 : Int32)) (upd v_coveredAt ((v_takenMany + (1 : Int32)).toNatClampNeg) ((v_coveredAt (v_takenMany.toNatClampNeg)) ||| (v_nearTo (x4.toNatClampNeg)))) v_nearTo (upd v_taken (v_takenMany.toNatClampNeg) x4) (upd (upd v_tried (v_takenMany.toNatClampNeg) x4) ((v_takenMany + (1 : Int32)).toNatClampNeg) (-1 : Int32)) v_wayOf _ _ _ (lv_sub hl [1, 0] rfl) hG h
      · have h := ite_t c3 h
        exact n178 v_far v_heaps v_isMeasured v_takenMany v_coveredAt v_nearTo v_taken (upd v_tried (v_takenMany.toNatClampNeg) x4) v_wayOf _ _ _ (lv_sub hl [] rfl) hG h
    · have h := ite_t c2 h
      refine lv_aload_n hx hb dX9_find_158 rfl (lv_at hl 0 rfl) ?_
      refine lv_dup hx hb dX9_find_159 rfl ?_
      refine gx_get (v := .int v_takenMany) (C := RX9) (T := TX9) (N := 44) hx hb hts mc_X9 hown hK hG (ga_50 g _) rfl 35 (by decide) hw1 rfl rfl dX9_find_160 ?_
      refine lv_iconst (v := (1 : Int32)) hx hb dX9_find_163 (by decide) ?_
      refine lv_isub hx hb dX9_find_164 ?_
      refine gx_put (σ' := (mkS σ [(3214, v_far), (3215, v_heaps), (3212, v_isMeasured), (3235, (v_takenMany - (1 : Int32)))] [] [(77, v_coveredAt), (76, v_nearTo), (74, v_taken), (75, (upd v_tried (v_takenMany.toNatClampNeg) x4)), (59, v_wayOf)] [])) (C := RX9) (T := TX9) (N := 44) hx hb hts mc_X9 tyX9 tyX9_ok nmX9 hown hK hG (ga_50 g _) rfl 35 (by decide) hw1 rfl rfl rfl rfl (Nat.le_of_ble_eq_true rfl) ((gf_3235 g _ _).trans (congrArg (g_cells g) (mk_a 3 rfl rfl))) dX9_find_165 (fun H locs hG => ?_)
      refine lv_goto (tgt := 243) hx hb dX9_find_168 (by decide) ?_
      exact n243 k54 hk54 x2 v_far v_heaps v_isMeasured (v_takenMany - (1 : Int32)) v_coveredAt v_nearTo v_taken (upd v_tried (v_takenMany.toNatClampNeg) x4) v_wayOf _ _ _ (lv_sub hl [0, 1] rfl) hG h
  have n89 : ∀ (k54 : Int32 → Int32 → Int32 → Int32 → Int32 → (Nat → Int32) → (Nat → Int32) → (Nat → Int32) → (Nat → Int32) → (Nat → Int32) → Option (Int32 × Int32 × Int32 × Int32 × Int32 × (Nat → Int32) × (Nat → Int32) × (Nat → Int32) × (Nat → Int32) × (Nat → Int32))) (hk54 : ∀ (x2 : Int32) (v_far : Int32) (v_heaps : Int32) (v_isMeasured : Int32) (v_takenMany : Int32) (v_coveredAt : Nat → Int32) (v_nearTo : Nat → Int32) (v_taken : Nat → Int32) (v_tried : Nat → Int32) (v_wayOf : Nat → Int32) (H : Heap) (locs : List Loc) (ls : Array Slot), lv_has ls 5 [(0, .ref (g.2.1 50)), (2, .int x2)] → GW g s (mkS σ [(3214, v_far), (3215, v_heaps), (3212, v_isMeasured), (3235, v_takenMany)] [] [(77, v_coveredAt), (76, v_nearTo), (74, v_taken), (75, v_tried), (59, v_wayOf)] []) H locs → k54 x2 v_far v_heaps v_isMeasured v_takenMany v_coveredAt v_nearTo v_taken v_tried v_wayOf = some (r, w_far, w_heaps, w_isMeasured, w_takenMany, w_coveredAt, w_nearTo, w_taken, w_tried, w_wayOf) → Wg p l e 2 47 s m args below meth c g (some (.int r)) (mkS σ [(3214, w_far), (3215, w_heaps), (3212, w_isMeasured), (3235, w_takenMany)] [] [(77, w_coveredAt), (76, w_nearTo), (74, w_taken), (75, w_tried), (59, w_wayOf)] []) H locs (F0 m 54 ls [])) (k89 : Int32 → Int32 → Int32 → Int32 → Int32 → Int32 → Int32 → (Nat → Int32) → (Nat → Int32) → (Nat → Int32) → (Nat → Int32) → (Nat → Int32) → Option (Int32 × Int32 × Int32 × Int32 × Int32 × (Nat → Int32) × (Nat → Int32) × (Nat → Int32) × (Nat → Int32) × (Nat → Int32))) (hk89 : ∀ (x2 : Int32) (x3 : Int32) (x4 : Int32) (v_far : Int32) (v_heaps : Int32) (v_isMeasured : Int32) (v_takenMany : Int32) (v_coveredAt : Nat → Int32) (v_nearTo : Nat → Int32) (v_taken : Nat → Int32) (v_tried : Nat → Int32) (v_wayOf : Nat → Int32) (H : Heap) (locs : List Loc) (ls : Array Slot), lv_has ls 5 [(0, .ref (g.2.1 50)), (2, .int x2), (3, .int x3), (4, .int x4)] → GW g s (mkS σ [(3214, v_far), (3215, v_heaps), (3212, v_isMeasured), (3235, v_takenMany)] [] [(77, v_coveredAt), (76, v_nearTo), (74, v_taken), (75, v_tried), (59, v_wayOf)] []) H locs → k89 x2 x3 x4 v_far v_heaps v_isMeasured v_takenMany v_coveredAt v_nearTo v_taken v_tried v_wayOf = some (r, w_far, w_heaps, w_isMeasured, w_takenMany, w_coveredAt, w_nearTo, w_taken, w_tried, w_wayOf) → Wg p l e 2 47 s m args below meth c g (some (.int r)) (mkS σ [(3214, w_far), (3215, w_heaps), (3212, w_isMeasured), (3235, w_takenMany)] [] [(77, w_coveredAt), (76, w_nearTo), (74, w_taken), (75, w_tried), (59, w_wayOf)] []) H locs (F0 m 89 ls [])) (x2 : Int32) (x3 : Int32) (x4 : Int32) (v_far : Int32) (v_heaps : Int32) (v_isMeasured : Int32) (v_takenMany : Int32) (v_coveredAt : Nat → Int32) (v_nearTo : Nat → Int32) (v_taken : Nat → Int32) (v_tried : Nat → Int32) (v_wayOf : Nat → Int32) (H : Heap) (locs : List Loc) (ls : Array Slot), lv_has ls 5 [(0, .ref (g.2.1 50)), (2, .int x2), (3, .int x3), (4, .int x4)] → GW g s (mkS σ [(3214, v_far), (3215, v_heaps), (3212, v_isMeasured), (3235, v_takenMany)] [] [(77, v_coveredAt), (76, v_nearTo), (74, v_taken), (75, v_tried), (59, v_wayOf)] []) H locs → M_find_n89 k54 k89 (σ.1 3203) x2 x3 x4 v_far v_heaps v_isMeasured v_takenMany v_coveredAt v_nearTo v_taken v_tried v_wayOf = some (r, w_far, w_heaps, w_isMeasured, w_takenMany, w_coveredAt, w_nearTo, w_taken, w_tried, w_wayOf) → Wg p l e 2 47 s m args below meth c g (some (.int r)) (mkS σ [(3214, w_far), (3215, w_heaps), (3212, w_isMeasured), (3235, w_takenMany)] [] [(77, w_coveredAt), (76, w_nearTo), (74, w_taken), (75, w_tried), (59, w_wayOf)] []) H locs (F0 m 89 ls []) := by
    intro k54 hk54 k89 hk89 x2 x3 x4 v_far v_heaps v_isMeasured v_takenMany v_coveredAt v_nearTo v_taken v_tried v_wayOf H locs ls hl hG h
    unfold M_find_n89 at h
    refine lv_iload hx hb dX9_find_89 (lv_at hl 3 rfl) ?_
    refine lv_aload_n hx hb dX9_find_91 rfl (lv_at hl 0 rfl) ?_
    refine gx_get (v := .int (σ.1 3203)) (C := RX9) (T := TX9) (N := 44) hx hb hts mc_X9 hown hK hG (ga_50 g _) rfl 3 (by decide) hw2 rfl rfl dX9_find_92 ?_
    refine lv_icmp_ge (tgt := 138) hx hb dX9_find_95 (by decide) (fun c6 => ?_) (fun c6 => ?_)
    · have h := ite_t c6 h
      exact n138 k54 hk54 x2 x4 v_far v_heaps v_isMeasured v_takenMany v_coveredAt v_nearTo v_taken v_tried v_wayOf _ _ _ (lv_sub hl [0, 1, 3] rfl) hG h
    · have h := ite_f c6 h
      refine lv_aload_n hx hb dX9_find_98 rfl (lv_at hl 0 rfl) ?_
      refine gx_get (v := .ref (g.2.1 76)) (C := RX9) (T := TX9) (N := 44) hx hb hts mc_X9 hown hK hG (ga_50 g _) rfl 36 (by decide) hw5 rfl rfl dX9_find_99 ?_
      refine lv_iload_n hx hb dX9_find_102 rfl (lv_at hl 2 rfl) ?_
      obtain ⟨hg7, h⟩ := gd_some h
      refine gx_iald (f := v_nearTo) hx hb hK hG (ga_76 g _) hg7 dX9_find_103 ?_
      refine lv_iload hx hb dX9_find_104 (lv_at hl 3 rfl) ?_
      refine lv_ishr hx hb dX9_find_106 ?_
      refine lv_iconst (v := (1 : Int32)) hx hb dX9_find_107 (by decide) ?_
      refine lv_iand hx hb dX9_find_108 ?_
      refine lv_if_eq (tgt := 132) hx hb dX9_find_109 (by decide) (fun c8 => ?_) (fun c8 => ?_)
      · have h := ite_t c8 h
        exact n132 k89 hk89 x2 x3 x4 v_far v_heaps v_isMeasured v_takenMany v_coveredAt v_nearTo v_taken v_tried v_wayOf _ _ _ (lv_sub hl [0, 1, 2, 3] rfl) hG h
      · have h := ite_f c8 h
        refine lv_aload_n hx hb dX9_find_112 rfl (lv_at hl 0 rfl) ?_
        refine gx_get (v := .ref (g.2.1 76)) (C := RX9) (T := TX9) (N := 44) hx hb hts mc_X9 hown hK hG (ga_50 g _) rfl 36 (by decide) hw5 rfl rfl dX9_find_113 ?_
        refine lv_iload hx hb dX9_find_116 (lv_at hl 3 rfl) ?_
        obtain ⟨hg9, h⟩ := gd_some h
        refine gx_iald (f := v_nearTo) hx hb hK hG (ga_76 g _) hg9 dX9_find_118 ?_
        refine lv_aload_n hx hb dX9_find_119 rfl (lv_at hl 0 rfl) ?_
        refine gx_get (v := .ref (g.2.1 77)) (C := RX9) (T := TX9) (N := 44) hx hb hts mc_X9 hown hK hG (ga_50 g _) rfl 37 (by decide) hw4 rfl rfl dX9_find_120 ?_
        refine lv_aload_n hx hb dX9_find_123 rfl (lv_at hl 0 rfl) ?_
        refine gx_get (v := .int v_takenMany) (C := RX9) (T := TX9) (N := 44) hx hb hts mc_X9 hown hK hG (ga_50 g _) rfl 35 (by decide) hw1 rfl rfl dX9_find_124 ?_
        obtain ⟨hg10, h⟩ := gd_some h
        refine gx_iald (f := v_coveredAt) hx hb hK hG (ga_77 g _) hg10 dX9_find_127 ?_
        refine lv_iand hx hb dX9_find_128 ?_
        refine lv_if_eq (tgt := 138) hx hb dX9_find_129 (by decide) (fun c11 => ?_) (fun c11 => ?_)
        · have h := ite_t c11 h
          exact n138 k54 hk54 x2 x4 v_far v_heaps v_isMeasured v_takenMany v_coveredAt v_nearTo v_taken v_tried v_wayOf _ _ _ (lv_sub hl [0, 1, 3] rfl) hG h
        · have h := ite_f c11 h
          exact n132 k89 hk89 x2 x3 x4 v_far v_heaps v_isMeasured v_takenMany v_coveredAt v_nearTo v_taken v_tried v_wayOf _ _ _ (lv_sub hl [0, 1, 2, 3] rfl) hG h
  have l89 : ∀ (k54 : Int32 → Int32 → Int32 → Int32 → Int32 → (Nat → Int32) → (Nat → Int32) → (Nat → Int32) → (Nat → Int32) → (Nat → Int32) → Option (Int32 × Int32 × Int32 × Int32 × Int32 × (Nat → Int32) × (Nat → Int32) × (Nat → Int32) × (Nat → Int32) × (Nat → Int32))) (hk54 : ∀ (x2 : Int32) (v_far : Int32) (v_heaps : Int32) (v_isMeasured : Int32) (v_takenMany : Int32) (v_coveredAt : Nat → Int32) (v_nearTo : Nat → Int32) (v_taken : Nat → Int32) (v_tried : Nat → Int32) (v_wayOf : Nat → Int32) (H : Heap) (locs : List Loc) (ls : Array Slot), lv_has ls 5 [(0, .ref (g.2.1 50)), (2, .int x2)] → GW g s (mkS σ [(3214, v_far), (3215, v_heaps), (3212, v_isMeasured), (3235, v_takenMany)] [] [(77, v_coveredAt), (76, v_nearTo), (74, v_taken), (75, v_tried), (59, v_wayOf)] []) H locs → k54 x2 v_far v_heaps v_isMeasured v_takenMany v_coveredAt v_nearTo v_taken v_tried v_wayOf = some (r, w_far, w_heaps, w_isMeasured, w_takenMany, w_coveredAt, w_nearTo, w_taken, w_tried, w_wayOf) → Wg p l e 2 47 s m args below meth c g (some (.int r)) (mkS σ [(3214, w_far), (3215, w_heaps), (3212, w_isMeasured), (3235, w_takenMany)] [] [(77, w_coveredAt), (76, w_nearTo), (74, w_taken), (75, w_tried), (59, w_wayOf)] []) H locs (F0 m 54 ls [])) (F : Nat) (x2 : Int32) (x3 : Int32) (x4 : Int32) (v_far : Int32) (v_heaps : Int32) (v_isMeasured : Int32) (v_takenMany : Int32) (v_coveredAt : Nat → Int32) (v_nearTo : Nat → Int32) (v_taken : Nat → Int32) (v_tried : Nat → Int32) (v_wayOf : Nat → Int32) (H : Heap) (locs : List Loc) (ls : Array Slot), lv_has ls 5 [(0, .ref (g.2.1 50)), (2, .int x2), (3, .int x3), (4, .int x4)] → GW g s (mkS σ [(3214, v_far), (3215, v_heaps), (3212, v_isMeasured), (3235, v_takenMany)] [] [(77, v_coveredAt), (76, v_nearTo), (74, v_taken), (75, v_tried), (59, v_wayOf)] []) H locs → M_find_l89 k54 (σ.1 3203) F x2 x3 x4 v_far v_heaps v_isMeasured v_takenMany v_coveredAt v_nearTo v_taken v_tried v_wayOf = some (r, w_far, w_heaps, w_isMeasured, w_takenMany, w_coveredAt, w_nearTo, w_taken, w_tried, w_wayOf) → Wg p l e 2 47 s m args below meth c g (some (.int r)) (mkS σ [(3214, w_far), (3215, w_heaps), (3212, w_isMeasured), (3235, w_takenMany)] [] [(77, w_coveredAt), (76, w_nearTo), (74, w_taken), (75, w_tried), (59, w_wayOf)] []) H locs (F0 m 89 ls []) := by
    intro k54 hk54 F
    induction F with
    | zero => intro x2 x3 x4 v_far v_heaps v_isMeasured v_takenMany v_coveredAt v_nearTo v_taken v_tried v_wayOf H locs ls hl hG h; exact no_some h
    | succ F ih => intro x2 x3 x4 v_far v_heaps v_isMeasured v_takenMany v_coveredAt v_nearTo v_taken v_tried v_wayOf H locs ls hl hG h; exact n89 k54 hk54 (fun x2 x3 x4 v_far v_heaps v_isMeasured v_takenMany v_coveredAt v_nearTo v_taken v_tried v_wayOf => M_find_l89 k54 (σ.1 3203) F x2 x3 x4 v_far v_heaps v_isMeasured v_takenMany v_coveredAt v_nearTo v_taken v_tried v_wayOf) ih x2 x3 x4 v_far v_heaps v_isMeasured v_takenMany v_coveredAt v_nearTo v_taken v_tried v_wayOf H locs ls hl hG h
  have n246 : ∀ (v_far : Int32) (v_heaps : Int32) (v_isMeasured : Int32) (v_takenMany : Int32) (v_coveredAt : Nat → Int32) (v_nearTo : Nat → Int32) (v_taken : Nat → Int32) (v_tried : Nat → Int32) (v_wayOf : Nat → Int32) (H : Heap) (locs : List Loc) (ls : Array Slot), lv_has ls 5 [] → GW g s (mkS σ [(3214, v_far), (3215, v_heaps), (3212, v_isMeasured), (3235, v_takenMany)] [] [(77, v_coveredAt), (76, v_nearTo), (74, v_taken), (75, v_tried), (59, v_wayOf)] []) H locs → M_find_n246 v_far v_heaps v_isMeasured v_takenMany v_coveredAt v_nearTo v_taken v_tried v_wayOf = some (r, w_far, w_heaps, w_isMeasured, w_takenMany, w_coveredAt, w_nearTo, w_taken, w_tried, w_wayOf) → Wg p l e 2 47 s m args below meth c g (some (.int r)) (mkS σ [(3214, w_far), (3215, w_heaps), (3212, w_isMeasured), (3235, w_takenMany)] [] [(77, w_coveredAt), (76, w_nearTo), (74, w_taken), (75, w_tried), (59, w_wayOf)] []) H locs (F0 m 246 ls []) := by
    intro v_far v_heaps v_isMeasured v_takenMany v_coveredAt v_nearTo v_taken v_tried v_wayOf H locs ls hl hG h
    unfold M_find_n246 at h
    refine lv_bipush (v := (-8 : Int32)) hx hb dX9_find_246 (by decide) ?_
    cases h
    exact gx_iret hx hb hr hlocks hG dX9_find_248
  have n54 : ∀ (k54 : Int32 → Int32 → Int32 → Int32 → Int32 → (Nat → Int32) → (Nat → Int32) → (Nat → Int32) → (Nat → Int32) → (Nat → Int32) → Option (Int32 × Int32 × Int32 × Int32 × Int32 × (Nat → Int32) × (Nat → Int32) × (Nat → Int32) × (Nat → Int32) × (Nat → Int32))) (hk54 : ∀ (x2 : Int32) (v_far : Int32) (v_heaps : Int32) (v_isMeasured : Int32) (v_takenMany : Int32) (v_coveredAt : Nat → Int32) (v_nearTo : Nat → Int32) (v_taken : Nat → Int32) (v_tried : Nat → Int32) (v_wayOf : Nat → Int32) (H : Heap) (locs : List Loc) (ls : Array Slot), lv_has ls 5 [(0, .ref (g.2.1 50)), (2, .int x2)] → GW g s (mkS σ [(3214, v_far), (3215, v_heaps), (3212, v_isMeasured), (3235, v_takenMany)] [] [(77, v_coveredAt), (76, v_nearTo), (74, v_taken), (75, v_tried), (59, v_wayOf)] []) H locs → k54 x2 v_far v_heaps v_isMeasured v_takenMany v_coveredAt v_nearTo v_taken v_tried v_wayOf = some (r, w_far, w_heaps, w_isMeasured, w_takenMany, w_coveredAt, w_nearTo, w_taken, w_tried, w_wayOf) → Wg p l e 2 47 s m args below meth c g (some (.int r)) (mkS σ [(3214, w_far), (3215, w_heaps), (3212, w_isMeasured), (3235, w_takenMany)] [] [(77, w_coveredAt), (76, w_nearTo), (74, w_taken), (75, w_tried), (59, w_wayOf)] []) H locs (F0 m 54 ls [])) (x2 : Int32) (v_far : Int32) (v_heaps : Int32) (v_isMeasured : Int32) (v_takenMany : Int32) (v_coveredAt : Nat → Int32) (v_nearTo : Nat → Int32) (v_taken : Nat → Int32) (v_tried : Nat → Int32) (v_wayOf : Nat → Int32) (H : Heap) (locs : List Loc) (ls : Array Slot), lv_has ls 5 [(0, .ref (g.2.1 50)), (2, .int x2)] → GW g s (mkS σ [(3214, v_far), (3215, v_heaps), (3212, v_isMeasured), (3235, v_takenMany)] [] [(77, v_coveredAt), (76, v_nearTo), (74, v_taken), (75, v_tried), (59, v_wayOf)] []) H locs → M_find_n54 k54 (σ.1 3203) x2 v_far v_heaps v_isMeasured v_takenMany v_coveredAt v_nearTo v_taken v_tried v_wayOf = some (r, w_far, w_heaps, w_isMeasured, w_takenMany, w_coveredAt, w_nearTo, w_taken, w_tried, w_wayOf) → Wg p l e 2 47 s m args below meth c g (some (.int r)) (mkS σ [(3214, w_far), (3215, w_heaps), (3212, w_isMeasured), (3235, w_takenMany)] [] [(77, w_coveredAt), (76, w_nearTo), (74, w_taken), (75, w_tried), (59, w_wayOf)] []) H locs (F0 m 54 ls []) := by
    intro k54 hk54 x2 v_far v_heaps v_isMeasured v_takenMany v_coveredAt v_nearTo v_taken v_tried v_wayOf H locs ls hl hG h
    unfold M_find_n54 at h
    refine lv_aload_n hx hb dX9_find_54 rfl (lv_at hl 0 rfl) ?_
    refine gx_get (v := .int v_takenMany) (C := RX9) (T := TX9) (N := 44) hx hb hts mc_X9 hown hK hG (ga_50 g _) rfl 35 (by decide) hw1 rfl rfl dX9_find_55 ?_
    refine lv_if_lt (tgt := 246) hx hb dX9_find_58 (by decide) (fun c12 => ?_) (fun c12 => ?_)
    · have h := ite_t c12 h
      exact n246 v_far v_heaps v_isMeasured v_takenMany v_coveredAt v_nearTo v_taken v_tried v_wayOf _ _ _ (lv_sub hl [] rfl) hG h
    · have h := ite_f c12 h
      refine lv_aload_n hx hb dX9_find_61 rfl (lv_at hl 0 rfl) ?_
      obtain ⟨z13, hc14, h⟩ := bnd_some h
      refine gx_cV (σ' := (mkS σ [(3214, v_far), (3215, v_heaps), (3212, v_isMeasured), (3235, v_takenMany)] [] [(77, v_coveredAt), (76, v_nearTo), (74, v_taken), (75, v_tried), (59, v_wayOf)] [])) (r := (some (.int z13))) (rest := []) (As := []) hS9 (c_M_uncovered l g (mkS σ [(3214, v_far), (3215, v_heaps), (3212, v_isMeasured), (3235, v_takenMany)] [] [(77, v_coveredAt), (76, v_nearTo), (74, v_taken), (75, v_tried), (59, v_wayOf)] []) z13 hc14) rfl (cwV 0 hts (gz_V mw_6_86 mw_6_88 ms_5_4 mw_1_11 mw_6_89) rfl rfl rfl hdV_X9_uncovered ⟨Nat.le_of_ble_eq_true rfl, Nat.le_of_ble_eq_true rfl⟩) hK hG (ga_50 g _) rfl rfl rfl hl.1 rfl (Nat.le_of_ble_eq_true rfl) dX9_find_62 (fun H locs hG => ?_)
      refine W.eq (g2 := F0 m 65 ls [.int z13]) rfl ?_
      refine lv_istore_n (lv' := [(3, .int z13), (0, .ref (g.2.1 50)), (2, .int x2)]) hx hb dX9_find_65 rfl hl (Nat.le_of_ble_eq_true rfl) rfl (fun ls hl => ?_)
      refine lv_iload_n hx hb dX9_find_66 rfl (lv_at hl 0 rfl) ?_
      refine lv_aload_n hx hb dX9_find_67 rfl (lv_at hl 1 rfl) ?_
      refine gx_get (v := .int (σ.1 3203)) (C := RX9) (T := TX9) (N := 44) hx hb hts mc_X9 hown hK hG (ga_50 g _) rfl 3 (by decide) hw2 rfl rfl dX9_find_68 ?_
      refine lv_icmp_ne (tgt := 76) hx hb dX9_find_71 (by decide) (fun c15 => ?_) (fun c15 => ?_)
      · have h := ite_f c15 h
        refine lv_aload_n hx hb dX9_find_76 rfl (lv_at hl 1 rfl) ?_
        refine gx_get (v := .ref (g.2.1 75)) (C := RX9) (T := TX9) (N := 44) hx hb hts mc_X9 hown hK hG (ga_50 g _) rfl 34 (by decide) hw0 rfl rfl dX9_find_77 ?_
        refine lv_aload_n hx hb dX9_find_80 rfl (lv_at hl 1 rfl) ?_
        refine gx_get (v := .int v_takenMany) (C := RX9) (T := TX9) (N := 44) hx hb hts mc_X9 hown hK hG (ga_50 g _) rfl 35 (by decide) hw1 rfl rfl dX9_find_81 ?_
        obtain ⟨hg16, h⟩ := gd_some h
        refine gx_iald (f := v_tried) hx hb hK hG (ga_75 g _) hg16 dX9_find_84 ?_
        refine lv_iconst (v := (1 : Int32)) hx hb dX9_find_85 (by decide) ?_
        refine lv_iadd hx hb dX9_find_86 ?_
        refine lv_istore (lv' := [(4, .int ((v_tried (v_takenMany.toNatClampNeg)) + (1 : Int32))), (3, .int z13), (0, .ref (g.2.1 50)), (2, .int x2)]) hx hb dX9_find_87 hl (Nat.le_of_ble_eq_true rfl) rfl (fun ls hl => ?_)
        exact l89 k54 hk54 FUEL x2 z13 ((v_tried (v_takenMany.toNatClampNeg)) + (1 : Int32)) v_far v_heaps v_isMeasured v_takenMany v_coveredAt v_nearTo v_taken v_tried v_wayOf _ _ _ (lv_sub hl [2, 3, 1, 0] rfl) hG h
      · have h := ite_t c15 h
        exact n74 v_far v_heaps v_isMeasured v_takenMany v_coveredAt v_nearTo v_taken v_tried v_wayOf _ _ _ (lv_sub hl [] rfl) hG h
  have l54 : ∀  (F : Nat) (x2 : Int32) (v_far : Int32) (v_heaps : Int32) (v_isMeasured : Int32) (v_takenMany : Int32) (v_coveredAt : Nat → Int32) (v_nearTo : Nat → Int32) (v_taken : Nat → Int32) (v_tried : Nat → Int32) (v_wayOf : Nat → Int32) (H : Heap) (locs : List Loc) (ls : Array Slot), lv_has ls 5 [(0, .ref (g.2.1 50)), (2, .int x2)] → GW g s (mkS σ [(3214, v_far), (3215, v_heaps), (3212, v_isMeasured), (3235, v_takenMany)] [] [(77, v_coveredAt), (76, v_nearTo), (74, v_taken), (75, v_tried), (59, v_wayOf)] []) H locs → M_find_l54 (σ.1 3203) F x2 v_far v_heaps v_isMeasured v_takenMany v_coveredAt v_nearTo v_taken v_tried v_wayOf = some (r, w_far, w_heaps, w_isMeasured, w_takenMany, w_coveredAt, w_nearTo, w_taken, w_tried, w_wayOf) → Wg p l e 2 47 s m args below meth c g (some (.int r)) (mkS σ [(3214, w_far), (3215, w_heaps), (3212, w_isMeasured), (3235, w_takenMany)] [] [(77, w_coveredAt), (76, w_nearTo), (74, w_taken), (75, w_tried), (59, w_wayOf)] []) H locs (F0 m 54 ls []) := by
    intro F
    induction F with
    | zero => intro x2 v_far v_heaps v_isMeasured v_takenMany v_coveredAt v_nearTo v_taken v_tried v_wayOf H locs ls hl hG h; exact no_some h
    | succ F ih => intro x2 v_far v_heaps v_isMeasured v_takenMany v_coveredAt v_nearTo v_taken v_tried v_wayOf H locs ls hl hG h; exact n54 (fun x2 v_far v_heaps v_isMeasured v_takenMany v_coveredAt v_nearTo v_taken v_tried v_wayOf => M_find_l54 (σ.1 3203) F x2 v_far v_heaps v_isMeasured v_takenMany v_coveredAt v_nearTo v_taken v_tried v_wayOf) ih x2 v_far v_heaps v_isMeasured v_takenMany v_coveredAt v_nearTo v_taken v_tried v_wayOf H locs ls hl hG h
  refine lv_iload_n hx hb dX9_find_0 rfl (lv_at hl 1 rfl) ?_
  refine lv_i2l hx hb dX9_find_1 rfl ?_
  refine lv_lconst (v := (0 : Int64)) hx hb dX9_find_2 (by decide) ?_
  refine lv_ldc2 hx hb hown hw6 dX9_find_3 ?_
  obtain ⟨z17, hc18, h⟩ := bnd_some h
  refine gx_cS (σ' := (mkS σ [(3214, (σ.1 3214)), (3215, (σ.1 3215)), (3212, (σ.1 3212)), (3235, (σ.1 3235))] [] [(77, (σ.2.2.1 77)), (76, (σ.2.2.1 76)), (74, (σ.2.2.1 74)), (75, (σ.2.2.1 75)), (59, (σ.2.2.1 59))] [])) (r := (some (.int z17))) (rest := []) (As := [.long (x1.toInt64), .long (0 : Int64), .long (6 : Int64)]) hS9 (c_M_in l g (mkS σ [(3214, (σ.1 3214)), (3215, (σ.1 3215)), (3212, (σ.1 3212)), (3235, (σ.1 3235))] [] [(77, (σ.2.2.1 77)), (76, (σ.2.2.1 76)), (74, (σ.2.2.1 74)), (75, (σ.2.2.1 75)), (59, (σ.2.2.1 59))] []) (x1.toInt64) (0 : Int64) (6 : Int64) z17 hc18) rfl (va_cwS 3 hts (gz_S mw_5_41 mw_5_42 mw_1_11 mw_5_43) rfl rfl rfl hdS_X9_in ⟨Nat.le_of_ble_eq_true rfl, Nat.le_of_ble_eq_true rfl⟩) hK hG rfl hl.1 rfl (Nat.le_of_ble_eq_true rfl) dX9_find_6 (fun H locs hG => ?_)
  refine W.eq (g2 := F0 m 9 ls [.int z17]) rfl ?_
  refine lv_if_ne (tgt := 14) hx hb dX9_find_9 (by decide) (fun c19 => ?_) (fun c19 => ?_)
  · have h := ite_f c19 h
    refine lv_aload_n hx hb dX9_find_14 rfl (lv_at hl 0 rfl) ?_
    refine gx_get (v := .int (σ.1 3203)) (C := RX9) (T := TX9) (N := 44) hx hb hts mc_X9 hown hK hG (ga_50 g _) rfl 3 (by decide) hw2 rfl rfl dX9_find_15 ?_
    refine lv_if_ne (tgt := 24) hx hb dX9_find_18 (by decide) (fun c20 => ?_) (fun c20 => ?_)
    · have h := ite_f c20 h
      refine lv_aload_n hx hb dX9_find_24 rfl (lv_at hl 0 rfl) ?_
      obtain ⟨z21, hc22, h⟩ := bnd_some h
      refine gx_cV (σ' := (mkS σ [(3214, z21.1), (3215, z21.2.1), (3212, z21.2.2.1), (3235, (σ.1 3235))] [] [(77, (σ.2.2.1 77)), (76, (σ.2.2.1 76)), (74, (σ.2.2.1 74)), (75, (σ.2.2.1 75)), (59, z21.2.2.2)] [])) (r := none) (rest := []) (As := []) hS9 (c_M_measure l g (mkS σ [(3214, (σ.1 3214)), (3215, (σ.1 3215)), (3212, (σ.1 3212)), (3235, (σ.1 3235))] [] [(77, (σ.2.2.1 77)), (76, (σ.2.2.1 76)), (74, (σ.2.2.1 74)), (75, (σ.2.2.1 75)), (59, (σ.2.2.1 59))] []) z21.1 z21.2.1 z21.2.2.1 z21.2.2.2 hc22) (mk_mk rfl rfl rfl rfl) (cwV 0 hts (gz_V mw_5_117 mw_5_119 ms_3_9 mw_1_11 mw_5_120) rfl rfl rfl hdV_X9_measure ⟨Nat.le_of_ble_eq_true rfl, Nat.le_of_ble_eq_true rfl⟩) hK hG (ga_50 g _) rfl rfl rfl hl.1 rfl (Nat.le_of_ble_eq_true rfl) dX9_find_25 (fun H locs hG => ?_)
      refine W.eq (g2 := F0 m 28 ls []) rfl ?_
      refine lv_aload_n hx hb dX9_find_28 rfl (lv_at hl 0 rfl) ?_
      refine lv_iload_n hx hb dX9_find_29 rfl (lv_at hl 1 rfl) ?_
      obtain ⟨z23, hc24, h⟩ := bnd_some h
      refine gx_cV (σ' := (mkS σ [(3214, z21.1), (3215, z21.2.1), (3212, z21.2.2.1), (3235, (σ.1 3235))] [] [(77, (σ.2.2.1 77)), (76, z23), (74, (σ.2.2.1 74)), (75, (σ.2.2.1 75)), (59, z21.2.2.2)] [])) (r := none) (rest := []) (As := [.int x1]) hS9 (c_M_findNear l g (mkS σ [(3214, z21.1), (3215, z21.2.1), (3212, z21.2.2.1), (3235, (σ.1 3235))] [] [(77, (σ.2.2.1 77)), (76, (σ.2.2.1 76)), (74, (σ.2.2.1 74)), (75, (σ.2.2.1 75)), (59, z21.2.2.2)] []) x1 z23 hc24) (mk_mk rfl rfl rfl rfl) (cwV 1 hts (gz_V mw_6_82 mw_6_84 ms_5_3 mw_1_11 mw_6_85) rfl rfl rfl hdV_X9_findNear ⟨Nat.le_of_ble_eq_true rfl, Nat.le_of_ble_eq_true rfl⟩) hK hG (ga_50 g _) rfl rfl rfl hl.1 rfl (Nat.le_of_ble_eq_true rfl) dX9_find_30 (fun H locs hG => ?_)
      refine W.eq (g2 := F0 m 33 ls []) rfl ?_
      refine lv_aload_n hx hb dX9_find_33 rfl (lv_at hl 0 rfl) ?_
      refine lv_iconst (v := (0 : Int32)) hx hb dX9_find_34 (by decide) ?_
      refine gx_put (σ' := (mkS σ [(3214, z21.1), (3215, z21.2.1), (3212, z21.2.2.1), (3235, (0 : Int32))] [] [(77, (σ.2.2.1 77)), (76, z23), (74, (σ.2.2.1 74)), (75, (σ.2.2.1 75)), (59, z21.2.2.2)] [])) (C := RX9) (T := TX9) (N := 44) hx hb hts mc_X9 tyX9 tyX9_ok nmX9 hown hK hG (ga_50 g _) rfl 35 (by decide) hw1 rfl rfl rfl rfl (Nat.le_of_ble_eq_true rfl) ((gf_3235 g _ _).trans (congrArg (g_cells g) (mk_a 3 rfl rfl))) dX9_find_35 (fun H locs hG => ?_)
      refine lv_aload_n hx hb dX9_find_38 rfl (lv_at hl 0 rfl) ?_
      refine gx_get (v := .ref (g.2.1 75)) (C := RX9) (T := TX9) (N := 44) hx hb hts mc_X9 hown hK hG (ga_50 g _) rfl 34 (by decide) hw0 rfl rfl dX9_find_39 ?_
      refine lv_iconst (v := (0 : Int32)) hx hb dX9_find_42 (by decide) ?_
      refine lv_iconst (v := (-1 : Int32)) hx hb dX9_find_43 (by decide) ?_
      refine gx_iast (σ' := (mkS σ [(3214, z21.1), (3215, z21.2.1), (3212, z21.2.2.1), (3235, (0 : Int32))] [] [(77, (σ.2.2.1 77)), (76, z23), (74, (σ.2.2.1 74)), (75, (upd (σ.2.2.1 75) ((0 : Int32).toNatClampNeg) (-1 : Int32))), (59, z21.2.2.2)] [])) (f := (σ.2.2.1 75)) hx hb hK hG (ga_75 g _) (by decide) ((gs_75 g _ _).trans (congrArg (g_cells g) (mk_c 3 rfl rfl))) dX9_find_44 (fun H locs hG => ?_)
      refine lv_aload_n hx hb dX9_find_45 rfl (lv_at hl 0 rfl) ?_
      refine gx_get (v := .ref (g.2.1 77)) (C := RX9) (T := TX9) (N := 44) hx hb hts mc_X9 hown hK hG (ga_50 g _) rfl 37 (by decide) hw4 rfl rfl dX9_find_46 ?_
      refine lv_iconst (v := (0 : Int32)) hx hb dX9_find_49 (by decide) ?_
      refine lv_iconst (v := (0 : Int32)) hx hb dX9_find_50 (by decide) ?_
      refine gx_iast (σ' := (mkS σ [(3214, z21.1), (3215, z21.2.1), (3212, z21.2.2.1), (3235, (0 : Int32))] [] [(77, (upd (σ.2.2.1 77) ((0 : Int32).toNatClampNeg) (0 : Int32))), (76, z23), (74, (σ.2.2.1 74)), (75, (upd (σ.2.2.1 75) ((0 : Int32).toNatClampNeg) (-1 : Int32))), (59, z21.2.2.2)] [])) (f := (σ.2.2.1 77)) hx hb hK hG (ga_77 g _) (by decide) ((gs_77 g _ _).trans (congrArg (g_cells g) (mk_c 0 rfl rfl))) dX9_find_51 (fun H locs hG => ?_)
      refine lv_iconst (v := (0 : Int32)) hx hb dX9_find_52 (by decide) ?_
      refine lv_istore_n (lv' := [(2, .int (0 : Int32)), (0, .ref (g.2.1 50)), (1, .int x1)]) hx hb dX9_find_53 rfl hl (Nat.le_of_ble_eq_true rfl) rfl (fun ls hl => ?_)
      exact l54 FUEL (0 : Int32) z21.1 z21.2.1 z21.2.2.1 (0 : Int32) (upd (σ.2.2.1 77) ((0 : Int32).toNatClampNeg) (0 : Int32)) z23 (σ.2.2.1 74) (upd (σ.2.2.1 75) ((0 : Int32).toNatClampNeg) (-1 : Int32)) z21.2.2.2 _ _ _ (lv_sub hl [1, 0] rfl) hG h
    · have h := ite_t c20 h
      refine lv_bipush (v := (-5 : Int32)) hx hb dX9_find_21 (by decide) ?_
      cases h
      exact gx_iret hx hb hr hlocks hG dX9_find_23
  · have h := ite_t c19 h
    refine lv_iconst (v := (-1 : Int32)) hx hb dX9_find_12 (by decide) ?_
    cases h
    exact gx_iret hx hb hr hlocks hG dX9_find_13

set_option maxHeartbeats 4000000 in
set_option maxRecDepth 100000 in
theorem c_M_heap (l : Launch) (g : GC) (σ : St) (x1 : Int32) (x2 : Int32) (r : Int32) (w_far : Int32) (w_heaps : Int32) (w_isMeasured : Int32) (w_takenMany : Int32) (w_coveredAt : Nat → Int32) (w_nearTo : Nat → Int32) (w_taken : Nat → Int32) (w_tried : Nat → Int32) (w_wayOf : Nat → Int32) (h : M_heap x1 x2 (σ.1 3214) (σ.1 3215) (σ.1 3212) (σ.1 3203) (σ.1 3235) (σ.2.2.1 77) (σ.2.2.1 76) (σ.2.2.1 54) (σ.2.2.1 74) (σ.2.2.1 75) (σ.2.2.1 59) = some (r, w_far, w_heaps, w_isMeasured, w_takenMany, w_coveredAt, w_nearTo, w_taken, w_tried, w_wayOf)) : Cn l g yX9_heap (Cond.code yX9_heap cX9_heap 4 (some .int) :: wG) 3 71 [.ref (g.2.1 50), .int x1, .int x2] σ (some (.int r)) (mkS σ [(3214, w_far), (3215, w_heaps), (3212, w_isMeasured), (3235, w_takenMany)] [] [(77, w_coveredAt), (76, w_nearTo), (74, w_taken), (75, w_tried), (59, w_wayOf)] []) := by
  unfold Cn
  refine Met.ofW (cc := cX9_heap) (maxL := 4) (ret := (some .int)) (by decide) rfl ?_
  intro p e s m args below meth c s₁ B hml hv
  obtain ⟨hargs, hP0, hK⟩ := hv
  have hx := B.exec
  have hb := B.bytes
  have hr := B.returns
  have hts : ∀ w ∈ wG, w.before args s = true := fun w h => atoms_spec (ws := (Cond.code yX9_heap cX9_heap 4 (some .int) :: wG)) B.pre w (List.mem_cons_of_mem _ h)
  have hown : s.vm.findClass RX9 = some m.cls := findClass_of_methodNamed B.named
  have hlocks := B.notSynchronized
  have hS9 : CallFix p m c cX9_heap 4 s args wG RX9 := ⟨hx, hb, hml, hown, hts⟩
  have hw0 := hts _ mw_4_174
  have hw1 := hts _ mw_4_172
  have hf9 : entryFrame m args 4 = _ := (congrArg (fun a => entryFrame m a 4) hargs).trans (lg_entry_eq m [.ref (g.2.1 50), .int x1, .int x2] 4)
  show Wg p l e 3 71 s m args below meth c g (some (.int r)) (mkS σ [(3214, w_far), (3215, w_heaps), (3212, w_isMeasured), (3235, w_takenMany)] [] [(77, w_coveredAt), (76, w_nearTo), (74, w_taken), (75, w_tried), (59, w_wayOf)] []) s.heap [] (entryFrame m args 4)
  rw [hf9]
  have hl := lv_entry ([.ref (g.2.1 50), .int x1, .int x2]) (n := 4) (Nat.le_of_ble_eq_true rfl)
  generalize (lg_sl ([.ref (g.2.1 50), .int x1, .int x2]) ++ List.replicate (4 - (lg_sl ([.ref (g.2.1 50), .int x1, .int x2])).length) Slot.unset).toArray = ls at hl ⊢
  have hl : lv_has ls 4 [(0, .ref (g.2.1 50)), (1, .int x1), (2, .int x2)] := hl
  have hG : GW g s σ s.heap [] := ⟨hP0, va_S.rf⟩
  have hG : GW g s (mkS σ [(3214, (σ.1 3214)), (3215, (σ.1 3215)), (3212, (σ.1 3212)), (3235, (σ.1 3235))] [] [(77, (σ.2.2.1 77)), (76, (σ.2.2.1 76)), (74, (σ.2.2.1 74)), (75, (σ.2.2.1 75)), (59, (σ.2.2.1 59))] []) s.heap [] := GW_self [3214, 3215, 3212, 3235] [] [77, 76, 74, 75, 59] [] hG
  unfold M_heap at h
  have n41 : ∀ (t0 : Int32) (v_far : Int32) (v_heaps : Int32) (v_isMeasured : Int32) (v_takenMany : Int32) (v_coveredAt : Nat → Int32) (v_nearTo : Nat → Int32) (v_taken : Nat → Int32) (v_tried : Nat → Int32) (v_wayOf : Nat → Int32) (H : Heap) (locs : List Loc) (ls : Array Slot), lv_has ls 4 [] → GW g s (mkS σ [(3214, v_far), (3215, v_heaps), (3212, v_isMeasured), (3235, v_takenMany)] [] [(77, v_coveredAt), (76, v_nearTo), (74, v_taken), (75, v_tried), (59, v_wayOf)] []) H locs → M_heap_n41 t0 v_far v_heaps v_isMeasured v_takenMany v_coveredAt v_nearTo v_taken v_tried v_wayOf = some (r, w_far, w_heaps, w_isMeasured, w_takenMany, w_coveredAt, w_nearTo, w_taken, w_tried, w_wayOf) → Wg p l e 3 71 s m args below meth c g (some (.int r)) (mkS σ [(3214, w_far), (3215, w_heaps), (3212, w_isMeasured), (3235, w_takenMany)] [] [(77, w_coveredAt), (76, w_nearTo), (74, w_taken), (75, w_tried), (59, w_wayOf)] []) H locs (F0 m 41 ls [.int t0]) := by
    intro t0 v_far v_heaps v_isMeasured v_takenMany v_coveredAt v_nearTo v_taken v_tried v_wayOf H locs ls hl hG h
    unfold M_heap_n41 at h
    cases h
    exact gx_iret hx hb hr hlocks hG dX9_heap_41
  refine lv_aload_n hx hb dX9_heap_0 rfl (lv_at hl 0 rfl) ?_
  refine lv_iload_n hx hb dX9_heap_1 rfl (lv_at hl 1 rfl) ?_
  obtain ⟨z1, hc2, h⟩ := bnd_some h
  refine gx_cV (σ' := (mkS σ [(3214, z1.2.1), (3215, z1.2.2.1), (3212, z1.2.2.2.1), (3235, z1.2.2.2.2.1)] [] [(77, z1.2.2.2.2.2.1), (76, z1.2.2.2.2.2.2.1), (74, z1.2.2.2.2.2.2.2.1), (75, z1.2.2.2.2.2.2.2.2.1), (59, z1.2.2.2.2.2.2.2.2.2)] [])) (r := (some (.int z1.1))) (rest := []) (As := [.int x1]) hS9 (c_M_find l g (mkS σ [(3214, (σ.1 3214)), (3215, (σ.1 3215)), (3212, (σ.1 3212)), (3235, (σ.1 3235))] [] [(77, (σ.2.2.1 77)), (76, (σ.2.2.1 76)), (74, (σ.2.2.1 74)), (75, (σ.2.2.1 75)), (59, (σ.2.2.1 59))] []) x1 z1.1 z1.2.1 z1.2.2.1 z1.2.2.2.1 z1.2.2.2.2.1 z1.2.2.2.2.2.1 z1.2.2.2.2.2.2.1 z1.2.2.2.2.2.2.2.1 z1.2.2.2.2.2.2.2.2.1 z1.2.2.2.2.2.2.2.2.2 hc2) (mk_mk rfl rfl rfl rfl) (cwV 1 hts (gz_V mw_6_78 mw_6_80 ms_5_2 mw_1_11 mw_6_81) rfl rfl rfl hdV_X9_find ⟨Nat.le_of_ble_eq_true rfl, Nat.le_of_ble_eq_true rfl⟩) hK hG (ga_50 g _) rfl rfl rfl hl.1 rfl (Nat.le_of_ble_eq_true rfl) dX9_heap_2 (fun H locs hG => ?_)
  refine W.eq (g2 := F0 m 5 ls [.int z1.1]) rfl ?_
  refine lv_istore_n (lv' := [(3, .int z1.1), (0, .ref (g.2.1 50)), (1, .int x1), (2, .int x2)]) hx hb dX9_heap_5 rfl hl (Nat.le_of_ble_eq_true rfl) rfl (fun ls hl => ?_)
  refine lv_iload_n hx hb dX9_heap_6 rfl (lv_at hl 0 rfl) ?_
  refine lv_if_eq (tgt := 14) hx hb dX9_heap_7 (by decide) (fun c3 => ?_) (fun c3 => ?_)
  · have h := ite_t c3 h
    refine lv_iload_n hx hb dX9_heap_14 rfl (lv_at hl 3 rfl) ?_
    refine lv_i2l hx hb dX9_heap_15 rfl ?_
    refine lv_lconst (v := (0 : Int64)) hx hb dX9_heap_16 (by decide) ?_
    refine lv_aload_n hx hb dX9_heap_17 rfl (lv_at hl 1 rfl) ?_
    refine gx_get (v := .int z1.2.2.2.2.1) (C := RX9) (T := TX9) (N := 44) hx hb hts mc_X9 hown hK hG (ga_50 g _) rfl 35 (by decide) hw0 rfl rfl dX9_heap_18 ?_
    refine lv_iconst (v := (1 : Int32)) hx hb dX9_heap_21 (by decide) ?_
    refine lv_isub hx hb dX9_heap_22 ?_
    refine lv_i2l hx hb dX9_heap_23 rfl ?_
    obtain ⟨z4, hc5, h⟩ := bnd_some h
    refine gx_cS (σ' := (mkS σ [(3214, z1.2.1), (3215, z1.2.2.1), (3212, z1.2.2.2.1), (3235, z1.2.2.2.2.1)] [] [(77, z1.2.2.2.2.2.1), (76, z1.2.2.2.2.2.2.1), (74, z1.2.2.2.2.2.2.2.1), (75, z1.2.2.2.2.2.2.2.2.1), (59, z1.2.2.2.2.2.2.2.2.2)] [])) (r := (some (.int z4))) (rest := []) (As := [.long (x2.toInt64), .long (0 : Int64), .long ((z1.2.2.2.2.1 - (1 : Int32)).toInt64)]) hS9 (c_M_in l g (mkS σ [(3214, z1.2.1), (3215, z1.2.2.1), (3212, z1.2.2.2.1), (3235, z1.2.2.2.2.1)] [] [(77, z1.2.2.2.2.2.1), (76, z1.2.2.2.2.2.2.1), (74, z1.2.2.2.2.2.2.2.1), (75, z1.2.2.2.2.2.2.2.2.1), (59, z1.2.2.2.2.2.2.2.2.2)] []) (x2.toInt64) (0 : Int64) ((z1.2.2.2.2.1 - (1 : Int32)).toInt64) z4 hc5) rfl (va_cwS 3 hts (gz_S mw_5_41 mw_5_42 mw_1_11 mw_5_43) rfl rfl rfl hdS_X9_in ⟨Nat.le_of_ble_eq_true rfl, Nat.le_of_ble_eq_true rfl⟩) hK hG rfl hl.1 rfl (Nat.le_of_ble_eq_true rfl) dX9_heap_24 (fun H locs hG => ?_)
    refine W.eq (g2 := F0 m 27 ls [.int z4]) rfl ?_
    refine lv_if_eq (tgt := 39) hx hb dX9_heap_27 (by decide) (fun c6 => ?_) (fun c6 => ?_)
    · have h := ite_t c6 h
      refine lv_bipush (v := (-8 : Int32)) hx hb dX9_heap_39 (by decide) ?_
      exact n41 (-8 : Int32) z1.2.1 z1.2.2.1 z1.2.2.2.1 z1.2.2.2.2.1 z1.2.2.2.2.2.1 z1.2.2.2.2.2.2.1 z1.2.2.2.2.2.2.2.1 z1.2.2.2.2.2.2.2.2.1 z1.2.2.2.2.2.2.2.2.2 _ _ _ (lv_sub hl [] rfl) hG h
    · have h := ite_f c6 h
      refine lv_aload_n hx hb dX9_heap_30 rfl (lv_at hl 1 rfl) ?_
      refine gx_get (v := .ref (g.2.1 74)) (C := RX9) (T := TX9) (N := 44) hx hb hts mc_X9 hown hK hG (ga_50 g _) rfl 33 (by decide) hw1 rfl rfl dX9_heap_31 ?_
      refine lv_iload_n hx hb dX9_heap_34 rfl (lv_at hl 3 rfl) ?_
      obtain ⟨hg7, h⟩ := gd_some h
      refine gx_iald (f := z1.2.2.2.2.2.2.2.1) hx hb hK hG (ga_74 g _) hg7 dX9_heap_35 ?_
      refine lv_goto (tgt := 41) hx hb dX9_heap_36 (by decide) ?_
      exact n41 (z1.2.2.2.2.2.2.2.1 (x2.toNatClampNeg)) z1.2.1 z1.2.2.1 z1.2.2.2.1 z1.2.2.2.2.1 z1.2.2.2.2.2.1 z1.2.2.2.2.2.2.1 z1.2.2.2.2.2.2.2.1 z1.2.2.2.2.2.2.2.2.1 z1.2.2.2.2.2.2.2.2.2 _ _ _ (lv_sub hl [] rfl) hG h
  · have h := ite_f c3 h
    refine lv_iload_n hx hb dX9_heap_10 rfl (lv_at hl 0 rfl) ?_
    refine lv_goto (tgt := 41) hx hb dX9_heap_11 (by decide) ?_
    exact n41 z1.1 z1.2.1 z1.2.2.1 z1.2.2.2.1 z1.2.2.2.2.1 z1.2.2.2.2.2.1 z1.2.2.2.2.2.2.1 z1.2.2.2.2.2.2.2.1 z1.2.2.2.2.2.2.2.2.1 z1.2.2.2.2.2.2.2.2.2 _ _ _ (lv_sub hl [] rfl) hG h

set_option maxHeartbeats 4000000 in
set_option maxRecDepth 100000 in
theorem c_M_isPost (l : Launch) (g : GC) (σ : St) (x1 : Int32) (r : Int32) (h : M_isPost x1 (σ.1 3203) = some r) : Cn l g yX9_isPost (Cond.code yX9_isPost cX9_isPost 2 (some .boolean) :: wG) 1 25 [.ref (g.2.1 50), .int x1] σ (some (.int r)) σ := by
  unfold Cn
  refine Met.ofW (cc := cX9_isPost) (maxL := 2) (ret := (some .boolean)) (by decide) rfl ?_
  intro p e s m args below meth c s₁ B hml hv
  obtain ⟨hargs, hP0, hK⟩ := hv
  have hx := B.exec
  have hb := B.bytes
  have hr := B.returns
  have hts : ∀ w ∈ wG, w.before args s = true := fun w h => atoms_spec (ws := (Cond.code yX9_isPost cX9_isPost 2 (some .boolean) :: wG)) B.pre w (List.mem_cons_of_mem _ h)
  have hown : s.vm.findClass RX9 = some m.cls := findClass_of_methodNamed B.named
  have hlocks := B.notSynchronized
  have hS9 : CallFix p m c cX9_isPost 2 s args wG RX9 := ⟨hx, hb, hml, hown, hts⟩
  have hw0 := hts _ mw_4_142
  have hf9 : entryFrame m args 2 = _ := (congrArg (fun a => entryFrame m a 2) hargs).trans (lg_entry_eq m [.ref (g.2.1 50), .int x1] 2)
  show Wg p l e 1 25 s m args below meth c g (some (.int r)) σ s.heap [] (entryFrame m args 2)
  rw [hf9]
  have hl := lv_entry ([.ref (g.2.1 50), .int x1]) (n := 2) (Nat.le_of_ble_eq_true rfl)
  generalize (lg_sl ([.ref (g.2.1 50), .int x1]) ++ List.replicate (2 - (lg_sl ([.ref (g.2.1 50), .int x1])).length) Slot.unset).toArray = ls at hl ⊢
  have hl : lv_has ls 2 [(0, .ref (g.2.1 50)), (1, .int x1)] := hl
  have hG : GW g s σ s.heap [] := ⟨hP0, va_S.rf⟩
  unfold M_isPost at h
  refine lv_iload_n hx hb dX9_isPost_0 rfl (lv_at hl 1 rfl) ?_
  refine lv_i2l hx hb dX9_isPost_1 rfl ?_
  refine lv_lconst (v := (0 : Int64)) hx hb dX9_isPost_2 (by decide) ?_
  refine lv_aload_n hx hb dX9_isPost_3 rfl (lv_at hl 0 rfl) ?_
  refine gx_get (v := .int (σ.1 3203)) (C := RX9) (T := TX9) (N := 44) hx hb hts mc_X9 hown hK hG (ga_50 g _) rfl 3 (by decide) hw0 rfl rfl dX9_isPost_4 ?_
  refine lv_iconst (v := (1 : Int32)) hx hb dX9_isPost_7 (by decide) ?_
  refine lv_isub hx hb dX9_isPost_8 ?_
  refine lv_i2l hx hb dX9_isPost_9 rfl ?_
  obtain ⟨z1, hc2, h⟩ := bnd_some h
  refine gx_cS (σ' := σ) (r := (some (.int z1))) (rest := []) (As := [.long (x1.toInt64), .long (0 : Int64), .long (((σ.1 3203) - (1 : Int32)).toInt64)]) hS9 (c_M_in l g σ (x1.toInt64) (0 : Int64) (((σ.1 3203) - (1 : Int32)).toInt64) z1 hc2) rfl (va_cwS 3 hts (gz_S mw_5_41 mw_5_42 mw_1_11 mw_5_43) rfl rfl rfl hdS_X9_in ⟨Nat.le_of_ble_eq_true rfl, Nat.le_of_ble_eq_true rfl⟩) hK hG rfl hl.1 rfl (Nat.le_of_ble_eq_true rfl) dX9_isPost_10 (fun H locs hG => ?_)
  refine W.eq (g2 := F0 m 13 ls [.int z1]) rfl ?_
  obtain ⟨hg3, h⟩ := gd_some h
  cases h
  exact gx_zret hx hb hr hlocks hg3 hG dX9_isPost_13

set_option maxHeartbeats 4000000 in
set_option maxRecDepth 100000 in
theorem c_M_joined (l : Launch) (g : GC) (σ : St) (x1 : Int32) (x2 : Int32) (r : Int32) (h : M_joined x1 x2 (σ.1 3203) (σ.2.2.1 54) = some r) : Cn l g yX9_joined (Cond.code yX9_joined cX9_joined 3 (some .boolean) :: wG) 2 46 [.ref (g.2.1 50), .int x1, .int x2] σ (some (.int r)) σ := by
  unfold Cn
  refine Met.ofW (cc := cX9_joined) (maxL := 3) (ret := (some .boolean)) (by decide) rfl ?_
  intro p e s m args below meth c s₁ B hml hv
  obtain ⟨hargs, hP0, hK⟩ := hv
  have hx := B.exec
  have hb := B.bytes
  have hr := B.returns
  have hts : ∀ w ∈ wG, w.before args s = true := fun w h => atoms_spec (ws := (Cond.code yX9_joined cX9_joined 3 (some .boolean) :: wG)) B.pre w (List.mem_cons_of_mem _ h)
  have hown : s.vm.findClass RX9 = some m.cls := findClass_of_methodNamed B.named
  have hlocks := B.notSynchronized
  have hS9 : CallFix p m c cX9_joined 3 s args wG RX9 := ⟨hx, hb, hml, hown, hts⟩
  have hw0 := hts _ mw_4_143
  have hf9 : entryFrame m args 3 = _ := (congrArg (fun a => entryFrame m a 3) hargs).trans (lg_entry_eq m [.ref (g.2.1 50), .int x1, .int x2] 3)
  show Wg p l e 2 46 s m args below meth c g (some (.int r)) σ s.heap [] (entryFrame m args 3)
  rw [hf9]
  have hl := lv_entry ([.ref (g.2.1 50), .int x1, .int x2]) (n := 3) (Nat.le_of_ble_eq_true rfl)
  generalize (lg_sl ([.ref (g.2.1 50), .int x1, .int x2]) ++ List.replicate (3 - (lg_sl ([.ref (g.2.1 50), .int x1, .int x2])).length) Slot.unset).toArray = ls at hl ⊢
  have hl : lv_has ls 3 [(0, .ref (g.2.1 50)), (1, .int x1), (2, .int x2)] := hl
  have hG : GW g s σ s.heap [] := ⟨hP0, va_S.rf⟩
  unfold M_joined at h
  have n35 : ∀ (t0 : Int32) (H : Heap) (locs : List Loc) (ls : Array Slot), lv_has ls 3 [] → GW g s σ H locs → M_joined_n35 t0 = some r → Wg p l e 2 46 s m args below meth c g (some (.int r)) σ H locs (F0 m 35 ls [.int t0]) := by
    intro t0 H locs ls hl hG h
    unfold M_joined_n35 at h
    obtain ⟨hg1, h⟩ := gd_some h
    cases h
    exact gx_zret hx hb hr hlocks hg1 hG dX9_joined_35
  have n34 : ∀  (H : Heap) (locs : List Loc) (ls : Array Slot), lv_has ls 3 [] → GW g s σ H locs → M_joined_n34 = some r → Wg p l e 2 46 s m args below meth c g (some (.int r)) σ H locs (F0 m 34 ls []) := by
    intro H locs ls hl hG h
    unfold M_joined_n34 at h
    refine lv_iconst (v := (0 : Int32)) hx hb dX9_joined_34 (by decide) ?_
    exact n35 (0 : Int32) _ _ _ (lv_sub hl [] rfl) hG h
  refine lv_aload_n hx hb dX9_joined_0 rfl (lv_at hl 0 rfl) ?_
  refine lv_iload_n hx hb dX9_joined_1 rfl (lv_at hl 1 rfl) ?_
  obtain ⟨z2, hc3, h⟩ := bnd_some h
  refine gx_cV (σ' := σ) (r := (some (.int z2))) (rest := []) (As := [.int x1]) hS9 (c_M_isPost l g σ x1 z2 hc3) rfl (cwV 1 hts (gz_V mw_5_66 mw_5_68 ms_3_5 mw_1_11 mw_5_69) rfl rfl rfl hdV_X9_isPost ⟨Nat.le_of_ble_eq_true rfl, Nat.le_of_ble_eq_true rfl⟩) hK hG (ga_50 g _) rfl rfl rfl hl.1 rfl (Nat.le_of_ble_eq_true rfl) dX9_joined_2 (fun H locs hG => ?_)
  refine W.eq (g2 := F0 m 5 ls [.int z2]) rfl ?_
  refine lv_if_eq (tgt := 34) hx hb dX9_joined_5 (by decide) (fun c4 => ?_) (fun c4 => ?_)
  · have h := ite_t c4 h
    exact n34 _ _ _ (lv_sub hl [] rfl) hG h
  · have h := ite_f c4 h
    refine lv_aload_n hx hb dX9_joined_8 rfl (lv_at hl 0 rfl) ?_
    refine lv_iload_n hx hb dX9_joined_9 rfl (lv_at hl 2 rfl) ?_
    obtain ⟨z5, hc6, h⟩ := bnd_some h
    refine gx_cV (σ' := σ) (r := (some (.int z5))) (rest := []) (As := [.int x2]) hS9 (c_M_isPost l g σ x2 z5 hc6) rfl (cwV 1 hts (gz_V mw_5_66 mw_5_68 ms_3_5 mw_1_11 mw_5_69) rfl rfl rfl hdV_X9_isPost ⟨Nat.le_of_ble_eq_true rfl, Nat.le_of_ble_eq_true rfl⟩) hK hG (ga_50 g _) rfl rfl rfl hl.1 rfl (Nat.le_of_ble_eq_true rfl) dX9_joined_10 (fun H locs hG => ?_)
    refine W.eq (g2 := F0 m 13 ls [.int z5]) rfl ?_
    refine lv_if_eq (tgt := 34) hx hb dX9_joined_13 (by decide) (fun c7 => ?_) (fun c7 => ?_)
    · have h := ite_t c7 h
      exact n34 _ _ _ (lv_sub hl [] rfl) hG h
    · have h := ite_f c7 h
      refine lv_aload_n hx hb dX9_joined_16 rfl (lv_at hl 0 rfl) ?_
      refine gx_get (v := .ref (g.2.1 54)) (C := RX9) (T := TX9) (N := 44) hx hb hts mc_X9 hown hK hG (ga_50 g _) rfl 4 (by decide) hw0 rfl rfl dX9_joined_17 ?_
      refine lv_bipush (v := (32 : Int32)) hx hb dX9_joined_20 (by decide) ?_
      refine lv_iload_n hx hb dX9_joined_22 rfl (lv_at hl 1 rfl) ?_
      refine lv_imul hx hb dX9_joined_23 ?_
      refine lv_iload_n hx hb dX9_joined_24 rfl (lv_at hl 2 rfl) ?_
      refine lv_iadd hx hb dX9_joined_25 ?_
      obtain ⟨hg8, h⟩ := gd_some h
      refine gx_zald (f := (σ.2.2.1 54)) hx hb hK hG (ga_54 g _) hg8 dX9_joined_26 ?_
      refine lv_if_eq (tgt := 34) hx hb dX9_joined_27 (by decide) (fun c9 => ?_) (fun c9 => ?_)
      · have h := ite_t c9 h
        exact n34 _ _ _ (lv_sub hl [] rfl) hG h
      · have h := ite_f c9 h
        refine lv_iconst (v := (1 : Int32)) hx hb dX9_joined_30 (by decide) ?_
        refine lv_goto (tgt := 35) hx hb dX9_joined_31 (by decide) ?_
        exact n35 (1 : Int32) _ _ _ (lv_sub hl [] rfl) hG h

set_option maxHeartbeats 4000000 in
set_option maxRecDepth 100000 in
theorem c_M_keep (l : Launch) (g : GC) (σ : St) (r : Int32) (w_isKept : Int32) (w_keptPosts : Int32) (w_keptRoad : Nat → Int32) (h : M_keep (σ.1 3205) (σ.1 3206) (σ.1 3203) (σ.2.2.1 55) (σ.2.2.1 54) = some (r, w_isKept, w_keptPosts, w_keptRoad)) : Cn l g yX9_keep (Cond.code yX9_keep cX9_keep 2 (some .int) :: wG) 0 0 [.ref (g.2.1 50)] σ (some (.int r)) (mkS σ [(3205, w_isKept), (3206, w_keptPosts)] [] [(55, w_keptRoad)] []) := by
  unfold Cn
  refine Met.ofW (cc := cX9_keep) (maxL := 2) (ret := (some .int)) (by decide) rfl ?_
  intro p e s m args below meth c s₁ B hml hv
  obtain ⟨hargs, hP0, hK⟩ := hv
  have hx := B.exec
  have hb := B.bytes
  have hr := B.returns
  have hts : ∀ w ∈ wG, w.before args s = true := fun w h => atoms_spec (ws := (Cond.code yX9_keep cX9_keep 2 (some .int) :: wG)) B.pre w (List.mem_cons_of_mem _ h)
  have hown : s.vm.findClass RX9 = some m.cls := findClass_of_methodNamed B.named
  have hlocks := B.notSynchronized
  have hw0 := hts _ mw_4_146
  have hw1 := hts _ mw_4_143
  have hw2 := hts _ mw_4_144
  have hw3 := hts _ mw_4_142
  have hw4 := hts _ mw_4_145
  have hf9 : entryFrame m args 2 = _ := (congrArg (fun a => entryFrame m a 2) hargs).trans (lg_entry_eq m [.ref (g.2.1 50)] 2)
  show Wg p l e 0 0 s m args below meth c g (some (.int r)) (mkS σ [(3205, w_isKept), (3206, w_keptPosts)] [] [(55, w_keptRoad)] []) s.heap [] (entryFrame m args 2)
  rw [hf9]
  have hl := lv_entry ([.ref (g.2.1 50)]) (n := 2) (Nat.le_of_ble_eq_true rfl)
  generalize (lg_sl ([.ref (g.2.1 50)]) ++ List.replicate (2 - (lg_sl ([.ref (g.2.1 50)])).length) Slot.unset).toArray = ls at hl ⊢
  have hl : lv_has ls 2 [(0, .ref (g.2.1 50))] := hl
  have hG : GW g s σ s.heap [] := ⟨hP0, va_S.rf⟩
  have hG : GW g s (mkS σ [(3205, (σ.1 3205)), (3206, (σ.1 3206))] [] [(55, (σ.2.2.1 55))] []) s.heap [] := GW_self [3205, 3206] [] [55] [] hG
  unfold M_keep at h
  have n40 : ∀ (v_isKept : Int32) (v_keptPosts : Int32) (v_keptRoad : Nat → Int32) (H : Heap) (locs : List Loc) (ls : Array Slot), lv_has ls 2 [] → GW g s (mkS σ [(3205, v_isKept), (3206, v_keptPosts)] [] [(55, v_keptRoad)] []) H locs → M_keep_n40 v_isKept v_keptPosts v_keptRoad = some (r, w_isKept, w_keptPosts, w_keptRoad) → Wg p l e 0 0 s m args below meth c g (some (.int r)) (mkS σ [(3205, w_isKept), (3206, w_keptPosts)] [] [(55, w_keptRoad)] []) H locs (F0 m 40 ls []) := by
    intro v_isKept v_keptPosts v_keptRoad H locs ls hl hG h
    unfold M_keep_n40 at h
    refine lv_iconst (v := (1 : Int32)) hx hb dX9_keep_40 (by decide) ?_
    cases h
    exact gx_iret hx hb hr hlocks hG dX9_keep_41
  have n15 : ∀ (k15 : Int32 → Int32 → Int32 → (Nat → Int32) → Option (Int32 × Int32 × Int32 × (Nat → Int32))) (hk15 : ∀ (x1 : Int32) (v_isKept : Int32) (v_keptPosts : Int32) (v_keptRoad : Nat → Int32) (H : Heap) (locs : List Loc) (ls : Array Slot), lv_has ls 2 [(0, .ref (g.2.1 50)), (1, .int x1)] → GW g s (mkS σ [(3205, v_isKept), (3206, v_keptPosts)] [] [(55, v_keptRoad)] []) H locs → k15 x1 v_isKept v_keptPosts v_keptRoad = some (r, w_isKept, w_keptPosts, w_keptRoad) → Wg p l e 0 0 s m args below meth c g (some (.int r)) (mkS σ [(3205, w_isKept), (3206, w_keptPosts)] [] [(55, w_keptRoad)] []) H locs (F0 m 15 ls [])) (x1 : Int32) (v_isKept : Int32) (v_keptPosts : Int32) (v_keptRoad : Nat → Int32) (H : Heap) (locs : List Loc) (ls : Array Slot), lv_has ls 2 [(0, .ref (g.2.1 50)), (1, .int x1)] → GW g s (mkS σ [(3205, v_isKept), (3206, v_keptPosts)] [] [(55, v_keptRoad)] []) H locs → M_keep_n15 k15 (σ.2.2.1 54) x1 v_isKept v_keptPosts v_keptRoad = some (r, w_isKept, w_keptPosts, w_keptRoad) → Wg p l e 0 0 s m args below meth c g (some (.int r)) (mkS σ [(3205, w_isKept), (3206, w_keptPosts)] [] [(55, w_keptRoad)] []) H locs (F0 m 15 ls []) := by
    intro k15 hk15 x1 v_isKept v_keptPosts v_keptRoad H locs ls hl hG h
    unfold M_keep_n15 at h
    refine lv_iload_n hx hb dX9_keep_15 rfl (lv_at hl 1 rfl) ?_
    refine lv_sipush (v := (1024 : Int32)) hx hb dX9_keep_16 (by decide) ?_
    refine lv_icmp_ge (tgt := 40) hx hb dX9_keep_19 (by decide) (fun c1 => ?_) (fun c1 => ?_)
    · have h := ite_t c1 h
      exact n40 v_isKept v_keptPosts v_keptRoad _ _ _ (lv_sub hl [] rfl) hG h
    · have h := ite_f c1 h
      refine lv_aload_n hx hb dX9_keep_22 rfl (lv_at hl 0 rfl) ?_
      refine gx_get (v := .ref (g.2.1 55)) (C := RX9) (T := TX9) (N := 44) hx hb hts mc_X9 hown hK hG (ga_50 g _) rfl 7 (by decide) hw0 rfl rfl dX9_keep_23 ?_
      refine lv_iload_n hx hb dX9_keep_26 rfl (lv_at hl 1 rfl) ?_
      refine lv_aload_n hx hb dX9_keep_27 rfl (lv_at hl 0 rfl) ?_
      refine gx_get (v := .ref (g.2.1 54)) (C := RX9) (T := TX9) (N := 44) hx hb hts mc_X9 hown hK hG (ga_50 g _) rfl 4 (by decide) hw1 rfl rfl dX9_keep_28 ?_
      refine lv_iload_n hx hb dX9_keep_31 rfl (lv_at hl 1 rfl) ?_
      obtain ⟨hg2, h⟩ := gd_some h
      refine gx_zald (f := (σ.2.2.1 54)) hx hb hK hG (ga_54 g _) hg2 dX9_keep_32 ?_
      obtain ⟨hg3, h⟩ := gd_some h
      refine gx_zast (σ' := (mkS σ [(3205, v_isKept), (3206, v_keptPosts)] [] [(55, (upd v_keptRoad (x1.toNatClampNeg) ((σ.2.2.1 54) (x1.toNatClampNeg))))] [])) (f := v_keptRoad) hx hb hK hG (ga_55 g _) hg2 hg3 ((gs_55 g _ _).trans (congrArg (g_cells g) (mk_c 0 rfl rfl))) dX9_keep_33 (fun H locs hG => ?_)
      refine lv_iinc (v := (x1 + (1 : Int32))) (lv' := [(1, .int (x1 + (1 : Int32))), (0, .ref (g.2.1 50))]) hx hb dX9_keep_34 hl (k := 1) rfl (congrArg (fun z => x1 + z) (by decide)) (Nat.le_of_ble_eq_true rfl) rfl (fun ls hl => ?_)
      refine lv_goto (tgt := 15) hx hb dX9_keep_37 (by decide) ?_
      exact hk15 (x1 + (1 : Int32)) v_isKept v_keptPosts (upd v_keptRoad (x1.toNatClampNeg) ((σ.2.2.1 54) (x1.toNatClampNeg))) _ _ _ (lv_sub hl [1, 0] rfl) hG h
  have l15 : ∀  (F : Nat) (x1 : Int32) (v_isKept : Int32) (v_keptPosts : Int32) (v_keptRoad : Nat → Int32) (H : Heap) (locs : List Loc) (ls : Array Slot), lv_has ls 2 [(0, .ref (g.2.1 50)), (1, .int x1)] → GW g s (mkS σ [(3205, v_isKept), (3206, v_keptPosts)] [] [(55, v_keptRoad)] []) H locs → M_keep_l15 (σ.2.2.1 54) F x1 v_isKept v_keptPosts v_keptRoad = some (r, w_isKept, w_keptPosts, w_keptRoad) → Wg p l e 0 0 s m args below meth c g (some (.int r)) (mkS σ [(3205, w_isKept), (3206, w_keptPosts)] [] [(55, w_keptRoad)] []) H locs (F0 m 15 ls []) := by
    intro F
    induction F with
    | zero => intro x1 v_isKept v_keptPosts v_keptRoad H locs ls hl hG h; exact no_some h
    | succ F ih => intro x1 v_isKept v_keptPosts v_keptRoad H locs ls hl hG h; exact n15 (fun x1 v_isKept v_keptPosts v_keptRoad => M_keep_l15 (σ.2.2.1 54) F x1 v_isKept v_keptPosts v_keptRoad) ih x1 v_isKept v_keptPosts v_keptRoad H locs ls hl hG h
  refine lv_aload_n hx hb dX9_keep_0 rfl (lv_at hl 0 rfl) ?_
  refine lv_iconst (v := (1 : Int32)) hx hb dX9_keep_1 (by decide) ?_
  refine gx_put (σ' := (mkS σ [(3205, (1 : Int32)), (3206, (σ.1 3206))] [] [(55, (σ.2.2.1 55))] [])) (C := RX9) (T := TX9) (N := 44) hx hb hts mc_X9 tyX9 tyX9_ok nmX9 hown hK hG (ga_50 g _) rfl 5 (by decide) hw2 rfl rfl (isb_n (by decide)) (isb_f (by decide)) (Nat.le_of_ble_eq_true rfl) ((gf_3205 g _ _).trans (congrArg (g_cells g) (mk_a 0 rfl rfl))) dX9_keep_2 (fun H locs hG => ?_)
  refine lv_aload_n hx hb dX9_keep_5 rfl (lv_at hl 0 rfl) ?_
  refine lv_aload_n hx hb dX9_keep_6 rfl (lv_at hl 0 rfl) ?_
  refine gx_get (v := .int (σ.1 3203)) (C := RX9) (T := TX9) (N := 44) hx hb hts mc_X9 hown hK hG (ga_50 g _) rfl 3 (by decide) hw3 rfl rfl dX9_keep_7 ?_
  refine gx_put (σ' := (mkS σ [(3205, (1 : Int32)), (3206, (σ.1 3203))] [] [(55, (σ.2.2.1 55))] [])) (C := RX9) (T := TX9) (N := 44) hx hb hts mc_X9 tyX9 tyX9_ok nmX9 hown hK hG (ga_50 g _) rfl 6 (by decide) hw4 rfl rfl rfl rfl (Nat.le_of_ble_eq_true rfl) ((gf_3206 g _ _).trans (congrArg (g_cells g) (mk_a 1 rfl rfl))) dX9_keep_10 (fun H locs hG => ?_)
  refine lv_iconst (v := (0 : Int32)) hx hb dX9_keep_13 (by decide) ?_
  refine lv_istore_n (lv' := [(1, .int (0 : Int32)), (0, .ref (g.2.1 50))]) hx hb dX9_keep_14 rfl hl (Nat.le_of_ble_eq_true rfl) rfl (fun ls hl => ?_)
  exact l15 FUEL (0 : Int32) (1 : Int32) (σ.1 3203) (σ.2.2.1 55) _ _ _ (lv_sub hl [1, 0] rfl) hG h

set_option maxHeartbeats 4000000 in
set_option maxRecDepth 100000 in
theorem c_M_sign (l : Launch) (g : GC) (σ : St) (x1 : Int32) (x2 : Int32) (w_signs : Nat → Int32) (h : M_sign x1 x2 (σ.1 3203) (σ.2.2.1 78) (σ.2.2.1 80) = some w_signs) : Cn l g yX9_sign (Cond.code yX9_sign cX9_sign 7 none :: wG) 0 0 [.ref (g.2.1 50), .int x1, .int x2] σ none (mkS σ [] [] [(80, w_signs)] []) := by
  unfold Cn
  refine Met.ofW (cc := cX9_sign) (maxL := 7) (ret := none) (by decide) rfl ?_
  intro p e s m args below meth c s₁ B hml hv
  obtain ⟨hargs, hP0, hK⟩ := hv
  have hx := B.exec
  have hb := B.bytes
  have hr := B.returns
  have hts : ∀ w ∈ wG, w.before args s = true := fun w h => atoms_spec (ws := (Cond.code yX9_sign cX9_sign 7 none :: wG)) B.pre w (List.mem_cons_of_mem _ h)
  have hown : s.vm.findClass RX9 = some m.cls := findClass_of_methodNamed B.named
  have hlocks := B.notSynchronized
  have hw0 := hts _ mw_4_180
  have hw1 := hts _ mw_4_142
  have hw2 := hts _ mw_4_178
  have hf9 : entryFrame m args 7 = _ := (congrArg (fun a => entryFrame m a 7) hargs).trans (lg_entry_eq m [.ref (g.2.1 50), .int x1, .int x2] 7)
  show Wg p l e 0 0 s m args below meth c g none (mkS σ [] [] [(80, w_signs)] []) s.heap [] (entryFrame m args 7)
  rw [hf9]
  have hl := lv_entry ([.ref (g.2.1 50), .int x1, .int x2]) (n := 7) (Nat.le_of_ble_eq_true rfl)
  generalize (lg_sl ([.ref (g.2.1 50), .int x1, .int x2]) ++ List.replicate (7 - (lg_sl ([.ref (g.2.1 50), .int x1, .int x2])).length) Slot.unset).toArray = ls at hl ⊢
  have hl : lv_has ls 7 [(0, .ref (g.2.1 50)), (1, .int x1), (2, .int x2)] := hl
  have hG : GW g s σ s.heap [] := ⟨hP0, va_S.rf⟩
  have hG : GW g s (mkS σ [] [] [(80, (σ.2.2.1 80))] []) s.heap [] := GW_self [] [] [80] [] hG
  unfold M_sign at h
  have n104 : ∀ (k13 : Int32 → Int32 → Int32 → Int32 → (Nat → Int32) → Option ((Nat → Int32))) (hk13 : ∀ (x1 : Int32) (x2 : Int32) (x3 : Int32) (x4 : Int32) (v_signs : Nat → Int32) (H : Heap) (locs : List Loc) (ls : Array Slot), lv_has ls 7 [(0, .ref (g.2.1 50)), (1, .int x1), (2, .int x2), (3, .int x3), (4, .int x4)] → GW g s (mkS σ [] [] [(80, v_signs)] []) H locs → k13 x1 x2 x3 x4 v_signs = some w_signs → Wg p l e 0 0 s m args below meth c g none (mkS σ [] [] [(80, w_signs)] []) H locs (F0 m 13 ls [])) (x1 : Int32) (x2 : Int32) (x3 : Int32) (x4 : Int32) (x5 : Int32) (x6 : Int32) (v_signs : Nat → Int32) (H : Heap) (locs : List Loc) (ls : Array Slot), lv_has ls 7 [(0, .ref (g.2.1 50)), (1, .int x1), (2, .int x2), (3, .int x3), (4, .int x4), (5, .int x5), (6, .int x6)] → GW g s (mkS σ [] [] [(80, v_signs)] []) H locs → M_sign_n104 k13 x1 x2 x3 x4 x5 x6 v_signs = some w_signs → Wg p l e 0 0 s m args below meth c g none (mkS σ [] [] [(80, w_signs)] []) H locs (F0 m 104 ls []) := by
    intro k13 hk13 x1 x2 x3 x4 x5 x6 v_signs H locs ls hl hG h
    unfold M_sign_n104 at h
    refine lv_aload_n hx hb dX9_sign_104 rfl (lv_at hl 0 rfl) ?_
    refine gx_get (v := .ref (g.2.1 80)) (C := RX9) (T := TX9) (N := 44) hx hb hts mc_X9 hown hK hG (ga_50 g _) rfl 41 (by decide) hw0 rfl rfl dX9_sign_105 ?_
    refine lv_iload_n hx hb dX9_sign_108 rfl (lv_at hl 3 rfl) ?_
    refine lv_iload hx hb dX9_sign_109 (lv_at hl 6 rfl) ?_
    refine lv_iadd hx hb dX9_sign_111 ?_
    refine lv_iload hx hb dX9_sign_112 (lv_at hl 5 rfl) ?_
    obtain ⟨hg1, h⟩ := gd_some h
    refine gx_iast (σ' := (mkS σ [] [] [(80, (upd v_signs ((x3 + x6).toNatClampNeg) x5))] [])) (f := v_signs) hx hb hK hG (ga_80 g _) hg1 ((gs_80 g _ _).trans (congrArg (g_cells g) (mk_c 0 rfl rfl))) dX9_sign_114 (fun H locs hG => ?_)
    refine lv_iinc (v := (x4 + (1 : Int32))) (lv' := [(4, .int (x4 + (1 : Int32))), (0, .ref (g.2.1 50)), (1, .int x1), (2, .int x2), (3, .int x3), (5, .int x5), (6, .int x6)]) hx hb dX9_sign_115 hl (k := 4) rfl (congrArg (fun z => x4 + z) (by decide)) (Nat.le_of_ble_eq_true rfl) rfl (fun ls hl => ?_)
    refine lv_goto (tgt := 13) hx hb dX9_sign_118 (by decide) ?_
    exact hk13 x1 x2 x3 (x4 + (1 : Int32)) (upd v_signs ((x3 + x6).toNatClampNeg) x5) _ _ _ (lv_sub hl [1, 2, 3, 4, 0] rfl) hG h
  have n57 : ∀ (k13 : Int32 → Int32 → Int32 → Int32 → (Nat → Int32) → Option ((Nat → Int32))) (hk13 : ∀ (x1 : Int32) (x2 : Int32) (x3 : Int32) (x4 : Int32) (v_signs : Nat → Int32) (H : Heap) (locs : List Loc) (ls : Array Slot), lv_has ls 7 [(0, .ref (g.2.1 50)), (1, .int x1), (2, .int x2), (3, .int x3), (4, .int x4)] → GW g s (mkS σ [] [] [(80, v_signs)] []) H locs → k13 x1 x2 x3 x4 v_signs = some w_signs → Wg p l e 0 0 s m args below meth c g none (mkS σ [] [] [(80, w_signs)] []) H locs (F0 m 13 ls [])) (k57 : Int32 → Int32 → Int32 → Int32 → Int32 → Int32 → (Nat → Int32) → Option ((Nat → Int32))) (hk57 : ∀ (x1 : Int32) (x2 : Int32) (x3 : Int32) (x4 : Int32) (x5 : Int32) (x6 : Int32) (v_signs : Nat → Int32) (H : Heap) (locs : List Loc) (ls : Array Slot), lv_has ls 7 [(0, .ref (g.2.1 50)), (1, .int x1), (2, .int x2), (3, .int x3), (4, .int x4), (5, .int x5), (6, .int x6)] → GW g s (mkS σ [] [] [(80, v_signs)] []) H locs → k57 x1 x2 x3 x4 x5 x6 v_signs = some w_signs → Wg p l e 0 0 s m args below meth c g none (mkS σ [] [] [(80, w_signs)] []) H locs (F0 m 57 ls [])) (x1 : Int32) (x2 : Int32) (x3 : Int32) (x4 : Int32) (x5 : Int32) (x6 : Int32) (v_signs : Nat → Int32) (H : Heap) (locs : List Loc) (ls : Array Slot), lv_has ls 7 [(0, .ref (g.2.1 50)), (1, .int x1), (2, .int x2), (3, .int x3), (4, .int x4), (5, .int x5), (6, .int x6)] → GW g s (mkS σ [] [] [(80, v_signs)] []) H locs → M_sign_n57 k13 k57 x1 x2 x3 x4 x5 x6 v_signs = some w_signs → Wg p l e 0 0 s m args below meth c g none (mkS σ [] [] [(80, w_signs)] []) H locs (F0 m 57 ls []) := by
    intro k13 hk13 k57 hk57 x1 x2 x3 x4 x5 x6 v_signs H locs ls hl hG h
    unfold M_sign_n57 at h
    refine lv_iload hx hb dX9_sign_57 (lv_at hl 6 rfl) ?_
    refine lv_if_le (tgt := 104) hx hb dX9_sign_59 (by decide) (fun c2 => ?_) (fun c2 => ?_)
    · have h := ite_t c2 h
      exact n104 k13 hk13 x1 x2 x3 x4 x5 x6 v_signs _ _ _ (lv_sub hl [0, 1, 2, 3, 4, 5, 6] rfl) hG h
    · have h := ite_f c2 h
      refine lv_aload_n hx hb dX9_sign_62 rfl (lv_at hl 0 rfl) ?_
      refine gx_get (v := .ref (g.2.1 80)) (C := RX9) (T := TX9) (N := 44) hx hb hts mc_X9 hown hK hG (ga_50 g _) rfl 41 (by decide) hw0 rfl rfl dX9_sign_63 ?_
      refine lv_iload_n hx hb dX9_sign_66 rfl (lv_at hl 3 rfl) ?_
      refine lv_iload hx hb dX9_sign_67 (lv_at hl 6 rfl) ?_
      refine lv_iadd hx hb dX9_sign_69 ?_
      refine lv_iconst (v := (1 : Int32)) hx hb dX9_sign_70 (by decide) ?_
      refine lv_isub hx hb dX9_sign_71 ?_
      obtain ⟨hg3, h⟩ := gd_some h
      refine gx_iald (f := v_signs) hx hb hK hG (ga_80 g _) hg3 dX9_sign_72 ?_
      refine lv_iload hx hb dX9_sign_73 (lv_at hl 5 rfl) ?_
      refine lv_icmp_le (tgt := 104) hx hb dX9_sign_75 (by decide) (fun c4 => ?_) (fun c4 => ?_)
      · have h := ite_t c4 h
        exact n104 k13 hk13 x1 x2 x3 x4 x5 x6 v_signs _ _ _ (lv_sub hl [0, 1, 2, 3, 4, 5, 6] rfl) hG h
      · have h := ite_f c4 h
        refine lv_aload_n hx hb dX9_sign_78 rfl (lv_at hl 0 rfl) ?_
        refine gx_get (v := .ref (g.2.1 80)) (C := RX9) (T := TX9) (N := 44) hx hb hts mc_X9 hown hK hG (ga_50 g _) rfl 41 (by decide) hw0 rfl rfl dX9_sign_79 ?_
        refine lv_iload_n hx hb dX9_sign_82 rfl (lv_at hl 3 rfl) ?_
        refine lv_iload hx hb dX9_sign_83 (lv_at hl 6 rfl) ?_
        refine lv_iadd hx hb dX9_sign_85 ?_
        refine lv_aload_n hx hb dX9_sign_86 rfl (lv_at hl 0 rfl) ?_
        refine gx_get (v := .ref (g.2.1 80)) (C := RX9) (T := TX9) (N := 44) hx hb hts mc_X9 hown hK hG (ga_50 g _) rfl 41 (by decide) hw0 rfl rfl dX9_sign_87 ?_
        refine lv_iload_n hx hb dX9_sign_90 rfl (lv_at hl 3 rfl) ?_
        refine lv_iload hx hb dX9_sign_91 (lv_at hl 6 rfl) ?_
        refine lv_iadd hx hb dX9_sign_93 ?_
        refine lv_iconst (v := (1 : Int32)) hx hb dX9_sign_94 (by decide) ?_
        refine lv_isub hx hb dX9_sign_95 ?_
        refine gx_iald (f := v_signs) hx hb hK hG (ga_80 g _) hg3 dX9_sign_96 ?_
        obtain ⟨hg5, h⟩ := gd_some h
        refine gx_iast (σ' := (mkS σ [] [] [(80, (upd v_signs ((x3 + x6).toNatClampNeg) (v_signs (((x3 + x6) - (1 : Int32)).toNatClampNeg))))] [])) (f := v_signs) hx hb hK hG (ga_80 g _) hg5 ((gs_80 g _ _).trans (congrArg (g_cells g) (mk_c 0 rfl rfl))) dX9_sign_97 (fun H locs hG => ?_)
        refine lv_iinc (v := (x6 + (-1 : Int32))) (lv' := [(6, .int (x6 + (-1 : Int32))), (0, .ref (g.2.1 50)), (1, .int x1), (2, .int x2), (3, .int x3), (4, .int x4), (5, .int x5)]) hx hb dX9_sign_98 hl (k := 6) rfl (congrArg (fun z => x6 + z) (by decide)) (Nat.le_of_ble_eq_true rfl) rfl (fun ls hl => ?_)
        refine lv_goto (tgt := 57) hx hb dX9_sign_101 (by decide) ?_
        exact hk57 x1 x2 x3 x4 x5 (x6 + (-1 : Int32)) (upd v_signs ((x3 + x6).toNatClampNeg) (v_signs (((x3 + x6) - (1 : Int32)).toNatClampNeg))) _ _ _ (lv_sub hl [1, 2, 3, 4, 5, 6, 0] rfl) hG h
  have l57 : ∀ (k13 : Int32 → Int32 → Int32 → Int32 → (Nat → Int32) → Option ((Nat → Int32))) (hk13 : ∀ (x1 : Int32) (x2 : Int32) (x3 : Int32) (x4 : Int32) (v_signs : Nat → Int32) (H : Heap) (locs : List Loc) (ls : Array Slot), lv_has ls 7 [(0, .ref (g.2.1 50)), (1, .int x1), (2, .int x2), (3, .int x3), (4, .int x4)] → GW g s (mkS σ [] [] [(80, v_signs)] []) H locs → k13 x1 x2 x3 x4 v_signs = some w_signs → Wg p l e 0 0 s m args below meth c g none (mkS σ [] [] [(80, w_signs)] []) H locs (F0 m 13 ls [])) (F : Nat) (x1 : Int32) (x2 : Int32) (x3 : Int32) (x4 : Int32) (x5 : Int32) (x6 : Int32) (v_signs : Nat → Int32) (H : Heap) (locs : List Loc) (ls : Array Slot), lv_has ls 7 [(0, .ref (g.2.1 50)), (1, .int x1), (2, .int x2), (3, .int x3), (4, .int x4), (5, .int x5), (6, .int x6)] → GW g s (mkS σ [] [] [(80, v_signs)] []) H locs → M_sign_l57 k13 F x1 x2 x3 x4 x5 x6 v_signs = some w_signs → Wg p l e 0 0 s m args below meth c g none (mkS σ [] [] [(80, w_signs)] []) H locs (F0 m 57 ls []) := by
    intro k13 hk13 F
    induction F with
    | zero => intro x1 x2 x3 x4 x5 x6 v_signs H locs ls hl hG h; exact no_some h
    | succ F ih => intro x1 x2 x3 x4 x5 x6 v_signs H locs ls hl hG h; exact n57 k13 hk13 (fun x1 x2 x3 x4 x5 x6 v_signs => M_sign_l57 k13 F x1 x2 x3 x4 x5 x6 v_signs) ih x1 x2 x3 x4 x5 x6 v_signs H locs ls hl hG h
  have n121 : ∀ (v_signs : Nat → Int32) (H : Heap) (locs : List Loc) (ls : Array Slot), lv_has ls 7 [] → GW g s (mkS σ [] [] [(80, v_signs)] []) H locs → M_sign_n121 v_signs = some w_signs → Wg p l e 0 0 s m args below meth c g none (mkS σ [] [] [(80, w_signs)] []) H locs (F0 m 121 ls []) := by
    intro v_signs H locs ls hl hG h
    unfold M_sign_n121 at h
    cases h
    exact gx_vret hx hb hr hlocks hG dX9_sign_121
  have n13 : ∀ (k13 : Int32 → Int32 → Int32 → Int32 → (Nat → Int32) → Option ((Nat → Int32))) (hk13 : ∀ (x1 : Int32) (x2 : Int32) (x3 : Int32) (x4 : Int32) (v_signs : Nat → Int32) (H : Heap) (locs : List Loc) (ls : Array Slot), lv_has ls 7 [(0, .ref (g.2.1 50)), (1, .int x1), (2, .int x2), (3, .int x3), (4, .int x4)] → GW g s (mkS σ [] [] [(80, v_signs)] []) H locs → k13 x1 x2 x3 x4 v_signs = some w_signs → Wg p l e 0 0 s m args below meth c g none (mkS σ [] [] [(80, w_signs)] []) H locs (F0 m 13 ls [])) (x1 : Int32) (x2 : Int32) (x3 : Int32) (x4 : Int32) (v_signs : Nat → Int32) (H : Heap) (locs : List Loc) (ls : Array Slot), lv_has ls 7 [(0, .ref (g.2.1 50)), (1, .int x1), (2, .int x2), (3, .int x3), (4, .int x4)] → GW g s (mkS σ [] [] [(80, v_signs)] []) H locs → M_sign_n13 k13 (σ.1 3203) (σ.2.2.1 78) x1 x2 x3 x4 v_signs = some w_signs → Wg p l e 0 0 s m args below meth c g none (mkS σ [] [] [(80, w_signs)] []) H locs (F0 m 13 ls []) := by
    intro k13 hk13 x1 x2 x3 x4 v_signs H locs ls hl hG h
    unfold M_sign_n13 at h
    refine lv_iload hx hb dX9_sign_13 (lv_at hl 4 rfl) ?_
    refine lv_aload_n hx hb dX9_sign_15 rfl (lv_at hl 0 rfl) ?_
    refine gx_get (v := .int (σ.1 3203)) (C := RX9) (T := TX9) (N := 44) hx hb hts mc_X9 hown hK hG (ga_50 g _) rfl 3 (by decide) hw1 rfl rfl dX9_sign_16 ?_
    refine lv_icmp_ge (tgt := 121) hx hb dX9_sign_19 (by decide) (fun c6 => ?_) (fun c6 => ?_)
    · have h := ite_t c6 h
      exact n121 v_signs _ _ _ (lv_sub hl [] rfl) hG h
    · have h := ite_f c6 h
      refine lv_sipush (v := (1024 : Int32)) hx hb dX9_sign_22 (by decide) ?_
      refine lv_aload_n hx hb dX9_sign_25 rfl (lv_at hl 0 rfl) ?_
      refine gx_get (v := .ref (g.2.1 78)) (C := RX9) (T := TX9) (N := 44) hx hb hts mc_X9 hown hK hG (ga_50 g _) rfl 39 (by decide) hw2 rfl rfl dX9_sign_26 ?_
      refine lv_bipush (v := (32 : Int32)) hx hb dX9_sign_29 (by decide) ?_
      refine lv_iload_n hx hb dX9_sign_31 rfl (lv_at hl 1 rfl) ?_
      refine lv_imul hx hb dX9_sign_32 ?_
      refine lv_iload hx hb dX9_sign_33 (lv_at hl 4 rfl) ?_
      refine lv_iadd hx hb dX9_sign_35 ?_
      obtain ⟨hg7, h⟩ := gd_some h
      refine gx_iald (f := (σ.2.2.1 78)) hx hb hK hG (ga_78 g _) hg7 dX9_sign_36 ?_
      refine lv_imul hx hb dX9_sign_37 ?_
      refine lv_aload_n hx hb dX9_sign_38 rfl (lv_at hl 0 rfl) ?_
      refine gx_get (v := .ref (g.2.1 78)) (C := RX9) (T := TX9) (N := 44) hx hb hts mc_X9 hown hK hG (ga_50 g _) rfl 39 (by decide) hw2 rfl rfl dX9_sign_39 ?_
      refine lv_bipush (v := (32 : Int32)) hx hb dX9_sign_42 (by decide) ?_
      refine lv_iload hx hb dX9_sign_44 (lv_at hl 4 rfl) ?_
      refine lv_imul hx hb dX9_sign_46 ?_
      refine lv_iload_n hx hb dX9_sign_47 rfl (lv_at hl 2 rfl) ?_
      refine lv_iadd hx hb dX9_sign_48 ?_
      obtain ⟨hg8, h⟩ := gd_some h
      refine gx_iald (f := (σ.2.2.1 78)) hx hb hK hG (ga_78 g _) hg8 dX9_sign_49 ?_
      refine lv_iadd hx hb dX9_sign_50 ?_
      refine lv_topi (fun y9 ey9 => ?_)
      have h := lt_at h ey9
      refine lv_istore (lv' := [(5, .int y9), (0, .ref (g.2.1 50)), (1, .int x1), (2, .int x2), (3, .int x3), (4, .int x4)]) hx hb dX9_sign_51 hl (Nat.le_of_ble_eq_true rfl) rfl (fun ls hl => ?_)
      refine lv_iload hx hb dX9_sign_53 (lv_at hl 5 rfl) ?_
      refine lv_istore (lv' := [(6, .int x4), (5, .int y9), (0, .ref (g.2.1 50)), (1, .int x1), (2, .int x2), (3, .int x3), (4, .int x4)]) hx hb dX9_sign_55 hl (Nat.le_of_ble_eq_true rfl) rfl (fun ls hl => ?_)
      exact l57 k13 hk13 FUEL x1 x2 x3 x4 y9 x4 v_signs _ _ _ (lv_sub hl [2, 3, 4, 5, 6, 1, 0] rfl) hG h
  have l13 : ∀  (F : Nat) (x1 : Int32) (x2 : Int32) (x3 : Int32) (x4 : Int32) (v_signs : Nat → Int32) (H : Heap) (locs : List Loc) (ls : Array Slot), lv_has ls 7 [(0, .ref (g.2.1 50)), (1, .int x1), (2, .int x2), (3, .int x3), (4, .int x4)] → GW g s (mkS σ [] [] [(80, v_signs)] []) H locs → M_sign_l13 (σ.1 3203) (σ.2.2.1 78) F x1 x2 x3 x4 v_signs = some w_signs → Wg p l e 0 0 s m args below meth c g none (mkS σ [] [] [(80, w_signs)] []) H locs (F0 m 13 ls []) := by
    intro F
    induction F with
    | zero => intro x1 x2 x3 x4 v_signs H locs ls hl hG h; exact no_some h
    | succ F ih => intro x1 x2 x3 x4 v_signs H locs ls hl hG h; exact n13 (fun x1 x2 x3 x4 v_signs => M_sign_l13 (σ.1 3203) (σ.2.2.1 78) F x1 x2 x3 x4 v_signs) ih x1 x2 x3 x4 v_signs H locs ls hl hG h
  refine lv_bipush (v := (32 : Int32)) hx hb dX9_sign_0 (by decide) ?_
  refine lv_bipush (v := (32 : Int32)) hx hb dX9_sign_2 (by decide) ?_
  refine lv_iload_n hx hb dX9_sign_4 rfl (lv_at hl 1 rfl) ?_
  refine lv_imul hx hb dX9_sign_5 ?_
  refine lv_iload_n hx hb dX9_sign_6 rfl (lv_at hl 2 rfl) ?_
  refine lv_iadd hx hb dX9_sign_7 ?_
  refine lv_imul hx hb dX9_sign_8 ?_
  refine lv_topi (fun y10 ey10 => ?_)
  have h := lt_at h ey10
  refine lv_istore_n (lv' := [(3, .int y10), (0, .ref (g.2.1 50)), (1, .int x1), (2, .int x2)]) hx hb dX9_sign_9 rfl hl (Nat.le_of_ble_eq_true rfl) rfl (fun ls hl => ?_)
  refine lv_iconst (v := (0 : Int32)) hx hb dX9_sign_10 (by decide) ?_
  refine lv_istore (lv' := [(4, .int (0 : Int32)), (3, .int y10), (0, .ref (g.2.1 50)), (1, .int x1), (2, .int x2)]) hx hb dX9_sign_11 hl (Nat.le_of_ble_eq_true rfl) rfl (fun ls hl => ?_)
  exact l13 FUEL x1 x2 y10 (0 : Int32) (σ.2.2.1 80) _ _ _ (lv_sub hl [2, 3, 4, 1, 0] rfl) hG h

set_option maxHeartbeats 4000000 in
set_option maxRecDepth 100000 in
theorem c_M_areAlike (l : Launch) (g : GC) (σ : St) (x1 : Int32) (x2 : Int32) (r : Int32) (h : M_areAlike x1 x2 (σ.1 3203) (σ.2.2.1 78) (σ.2.2.1 80) = some r) : Cn l g yX9_areAlike (Cond.code yX9_areAlike cX9_areAlike 5 (some .boolean) :: wG) 0 0 [.ref (g.2.1 50), .int x1, .int x2] σ (some (.int r)) σ := by
  unfold Cn
  refine Met.ofW (cc := cX9_areAlike) (maxL := 5) (ret := (some .boolean)) (by decide) rfl ?_
  intro p e s m args below meth c s₁ B hml hv
  obtain ⟨hargs, hP0, hK⟩ := hv
  have hx := B.exec
  have hb := B.bytes
  have hr := B.returns
  have hts : ∀ w ∈ wG, w.before args s = true := fun w h => atoms_spec (ws := (Cond.code yX9_areAlike cX9_areAlike 5 (some .boolean) :: wG)) B.pre w (List.mem_cons_of_mem _ h)
  have hown : s.vm.findClass RX9 = some m.cls := findClass_of_methodNamed B.named
  have hlocks := B.notSynchronized
  have hw0 := hts _ mw_4_142
  have hw1 := hts _ mw_4_180
  have hw2 := hts _ mw_4_178
  have hf9 : entryFrame m args 5 = _ := (congrArg (fun a => entryFrame m a 5) hargs).trans (lg_entry_eq m [.ref (g.2.1 50), .int x1, .int x2] 5)
  show Wg p l e 0 0 s m args below meth c g (some (.int r)) σ s.heap [] (entryFrame m args 5)
  rw [hf9]
  have hl := lv_entry ([.ref (g.2.1 50), .int x1, .int x2]) (n := 5) (Nat.le_of_ble_eq_true rfl)
  generalize (lg_sl ([.ref (g.2.1 50), .int x1, .int x2]) ++ List.replicate (5 - (lg_sl ([.ref (g.2.1 50), .int x1, .int x2])).length) Slot.unset).toArray = ls at hl ⊢
  have hl : lv_has ls 5 [(0, .ref (g.2.1 50)), (1, .int x1), (2, .int x2)] := hl
  have hG : GW g s σ s.heap [] := ⟨hP0, va_S.rf⟩
  unfold M_areAlike at h
  have n69 : ∀ (k24 : Int32 → Int32 → Int32 → Int32 → Option (Int32)) (hk24 : ∀ (x1 : Int32) (x2 : Int32) (x3 : Int32) (x4 : Int32) (H : Heap) (locs : List Loc) (ls : Array Slot), lv_has ls 5 [(0, .ref (g.2.1 50)), (1, .int x1), (2, .int x2), (3, .int x3), (4, .int x4)] → GW g s σ H locs → k24 x1 x2 x3 x4 = some r → Wg p l e 0 0 s m args below meth c g (some (.int r)) σ H locs (F0 m 24 ls [])) (x1 : Int32) (x2 : Int32) (x4 : Int32) (t0 : Int32) (H : Heap) (locs : List Loc) (ls : Array Slot), lv_has ls 5 [(0, .ref (g.2.1 50)), (1, .int x1), (2, .int x2), (4, .int x4)] → GW g s σ H locs → M_areAlike_n69 k24 x1 x2 x4 t0 = some r → Wg p l e 0 0 s m args below meth c g (some (.int r)) σ H locs (F0 m 69 ls [.int t0]) := by
    intro k24 hk24 x1 x2 x4 t0 H locs ls hl hG h
    unfold M_areAlike_n69 at h
    refine lv_istore_n (lv' := [(3, .int t0), (0, .ref (g.2.1 50)), (1, .int x1), (2, .int x2), (4, .int x4)]) hx hb dX9_areAlike_69 rfl hl (Nat.le_of_ble_eq_true rfl) rfl (fun ls hl => ?_)
    refine lv_iinc (v := (x4 + (1 : Int32))) (lv' := [(4, .int (x4 + (1 : Int32))), (3, .int t0), (0, .ref (g.2.1 50)), (1, .int x1), (2, .int x2)]) hx hb dX9_areAlike_70 hl (k := 4) rfl (congrArg (fun z => x4 + z) (by decide)) (Nat.le_of_ble_eq_true rfl) rfl (fun ls hl => ?_)
    refine lv_goto (tgt := 24) hx hb dX9_areAlike_73 (by decide) ?_
    exact hk24 x1 x2 t0 (x4 + (1 : Int32)) _ _ _ (lv_sub hl [2, 3, 4, 1, 0] rfl) hG h
  have n76 : ∀ (x3 : Int32) (H : Heap) (locs : List Loc) (ls : Array Slot), lv_has ls 5 [(3, .int x3)] → GW g s σ H locs → M_areAlike_n76 x3 = some r → Wg p l e 0 0 s m args below meth c g (some (.int r)) σ H locs (F0 m 76 ls []) := by
    intro x3 H locs ls hl hG h
    unfold M_areAlike_n76 at h
    refine lv_iload_n hx hb dX9_areAlike_76 rfl (lv_at hl 0 rfl) ?_
    obtain ⟨hg1, h⟩ := gd_some h
    cases h
    exact gx_zret hx hb hr hlocks hg1 hG dX9_areAlike_77
  have n24 : ∀ (k24 : Int32 → Int32 → Int32 → Int32 → Option (Int32)) (hk24 : ∀ (x1 : Int32) (x2 : Int32) (x3 : Int32) (x4 : Int32) (H : Heap) (locs : List Loc) (ls : Array Slot), lv_has ls 5 [(0, .ref (g.2.1 50)), (1, .int x1), (2, .int x2), (3, .int x3), (4, .int x4)] → GW g s σ H locs → k24 x1 x2 x3 x4 = some r → Wg p l e 0 0 s m args below meth c g (some (.int r)) σ H locs (F0 m 24 ls [])) (x1 : Int32) (x2 : Int32) (x3 : Int32) (x4 : Int32) (H : Heap) (locs : List Loc) (ls : Array Slot), lv_has ls 5 [(0, .ref (g.2.1 50)), (1, .int x1), (2, .int x2), (3, .int x3), (4, .int x4)] → GW g s σ H locs → M_areAlike_n24 k24 (σ.1 3203) (σ.2.2.1 80) x1 x2 x3 x4 = some r → Wg p l e 0 0 s m args below meth c g (some (.int r)) σ H locs (F0 m 24 ls []) := by
    intro k24 hk24 x1 x2 x3 x4 H locs ls hl hG h
    unfold M_areAlike_n24 at h
    refine lv_iload hx hb dX9_areAlike_24 (lv_at hl 4 rfl) ?_
    refine lv_aload_n hx hb dX9_areAlike_26 rfl (lv_at hl 0 rfl) ?_
    refine gx_get (v := .int (σ.1 3203)) (C := RX9) (T := TX9) (N := 44) hx hb hts mc_X9 hown hK hG (ga_50 g _) rfl 3 (by decide) hw0 rfl rfl dX9_areAlike_27 ?_
    refine lv_icmp_ge (tgt := 76) hx hb dX9_areAlike_30 (by decide) (fun c2 => ?_) (fun c2 => ?_)
    · have h := ite_t c2 h
      exact n76 x3 _ _ _ (lv_sub hl [3] rfl) hG h
    · have h := ite_f c2 h
      refine lv_iload_n hx hb dX9_areAlike_33 rfl (lv_at hl 3 rfl) ?_
      refine lv_if_eq (tgt := 76) hx hb dX9_areAlike_34 (by decide) (fun c3 => ?_) (fun c3 => ?_)
      · have h := ite_t c3 h
        exact n76 x3 _ _ _ (lv_sub hl [3] rfl) hG h
      · have h := ite_f c3 h
        refine lv_aload_n hx hb dX9_areAlike_37 rfl (lv_at hl 0 rfl) ?_
        refine gx_get (v := .ref (g.2.1 80)) (C := RX9) (T := TX9) (N := 44) hx hb hts mc_X9 hown hK hG (ga_50 g _) rfl 41 (by decide) hw1 rfl rfl dX9_areAlike_38 ?_
        refine lv_bipush (v := (32 : Int32)) hx hb dX9_areAlike_41 (by decide) ?_
        refine lv_iload_n hx hb dX9_areAlike_43 rfl (lv_at hl 1 rfl) ?_
        refine lv_imul hx hb dX9_areAlike_44 ?_
        refine lv_iload hx hb dX9_areAlike_45 (lv_at hl 4 rfl) ?_
        refine lv_iadd hx hb dX9_areAlike_47 ?_
        obtain ⟨hg4, h⟩ := gd_some h
        refine gx_iald (f := (σ.2.2.1 80)) hx hb hK hG (ga_80 g _) hg4 dX9_areAlike_48 ?_
        refine lv_aload_n hx hb dX9_areAlike_49 rfl (lv_at hl 0 rfl) ?_
        refine gx_get (v := .ref (g.2.1 80)) (C := RX9) (T := TX9) (N := 44) hx hb hts mc_X9 hown hK hG (ga_50 g _) rfl 41 (by decide) hw1 rfl rfl dX9_areAlike_50 ?_
        refine lv_bipush (v := (32 : Int32)) hx hb dX9_areAlike_53 (by decide) ?_
        refine lv_iload_n hx hb dX9_areAlike_55 rfl (lv_at hl 2 rfl) ?_
        refine lv_imul hx hb dX9_areAlike_56 ?_
        refine lv_iload hx hb dX9_areAlike_57 (lv_at hl 4 rfl) ?_
        refine lv_iadd hx hb dX9_areAlike_59 ?_
        obtain ⟨hg5, h⟩ := gd_some h
        refine gx_iald (f := (σ.2.2.1 80)) hx hb hK hG (ga_80 g _) hg5 dX9_areAlike_60 ?_
        refine lv_icmp_ne (tgt := 68) hx hb dX9_areAlike_61 (by decide) (fun c6 => ?_) (fun c6 => ?_)
        · have h := ite_f c6 h
          refine lv_iconst (v := (0 : Int32)) hx hb dX9_areAlike_68 (by decide) ?_
          exact n69 k24 hk24 x1 x2 x4 (0 : Int32) _ _ _ (lv_sub hl [0, 1, 2, 4] rfl) hG h
        · have h := ite_t c6 h
          refine lv_iconst (v := (1 : Int32)) hx hb dX9_areAlike_64 (by decide) ?_
          refine lv_goto (tgt := 69) hx hb dX9_areAlike_65 (by decide) ?_
          exact n69 k24 hk24 x1 x2 x4 (1 : Int32) _ _ _ (lv_sub hl [0, 1, 2, 4] rfl) hG h
  have l24 : ∀  (F : Nat) (x1 : Int32) (x2 : Int32) (x3 : Int32) (x4 : Int32) (H : Heap) (locs : List Loc) (ls : Array Slot), lv_has ls 5 [(0, .ref (g.2.1 50)), (1, .int x1), (2, .int x2), (3, .int x3), (4, .int x4)] → GW g s σ H locs → M_areAlike_l24 (σ.1 3203) (σ.2.2.1 80) F x1 x2 x3 x4 = some r → Wg p l e 0 0 s m args below meth c g (some (.int r)) σ H locs (F0 m 24 ls []) := by
    intro F
    induction F with
    | zero => intro x1 x2 x3 x4 H locs ls hl hG h; exact no_some h
    | succ F ih => intro x1 x2 x3 x4 H locs ls hl hG h; exact n24 (fun x1 x2 x3 x4 => M_areAlike_l24 (σ.1 3203) (σ.2.2.1 80) F x1 x2 x3 x4) ih x1 x2 x3 x4 H locs ls hl hG h
  have n20 : ∀ (x1 : Int32) (x2 : Int32) (t0 : Int32) (H : Heap) (locs : List Loc) (ls : Array Slot), lv_has ls 5 [(0, .ref (g.2.1 50)), (1, .int x1), (2, .int x2)] → GW g s σ H locs → M_areAlike_n20 (σ.1 3203) (σ.2.2.1 80) x1 x2 t0 = some r → Wg p l e 0 0 s m args below meth c g (some (.int r)) σ H locs (F0 m 20 ls [.int t0]) := by
    intro x1 x2 t0 H locs ls hl hG h
    unfold M_areAlike_n20 at h
    refine lv_istore_n (lv' := [(3, .int t0), (0, .ref (g.2.1 50)), (1, .int x1), (2, .int x2)]) hx hb dX9_areAlike_20 rfl hl (Nat.le_of_ble_eq_true rfl) rfl (fun ls hl => ?_)
    refine lv_iconst (v := (0 : Int32)) hx hb dX9_areAlike_21 (by decide) ?_
    refine lv_istore (lv' := [(4, .int (0 : Int32)), (3, .int t0), (0, .ref (g.2.1 50)), (1, .int x1), (2, .int x2)]) hx hb dX9_areAlike_22 hl (Nat.le_of_ble_eq_true rfl) rfl (fun ls hl => ?_)
    exact l24 FUEL x1 x2 t0 (0 : Int32) _ _ _ (lv_sub hl [2, 3, 4, 1, 0] rfl) hG h
  refine lv_aload_n hx hb dX9_areAlike_0 rfl (lv_at hl 0 rfl) ?_
  refine gx_get (v := .ref (g.2.1 78)) (C := RX9) (T := TX9) (N := 44) hx hb hts mc_X9 hown hK hG (ga_50 g _) rfl 39 (by decide) hw2 rfl rfl dX9_areAlike_1 ?_
  refine lv_iload_n hx hb dX9_areAlike_4 rfl (lv_at hl 1 rfl) ?_
  obtain ⟨hg7, h⟩ := gd_some h
  refine gx_iald (f := (σ.2.2.1 78)) hx hb hK hG (ga_78 g _) hg7 dX9_areAlike_5 ?_
  refine lv_aload_n hx hb dX9_areAlike_6 rfl (lv_at hl 0 rfl) ?_
  refine gx_get (v := .ref (g.2.1 78)) (C := RX9) (T := TX9) (N := 44) hx hb hts mc_X9 hown hK hG (ga_50 g _) rfl 39 (by decide) hw2 rfl rfl dX9_areAlike_7 ?_
  refine lv_iload_n hx hb dX9_areAlike_10 rfl (lv_at hl 2 rfl) ?_
  obtain ⟨hg8, h⟩ := gd_some h
  refine gx_iald (f := (σ.2.2.1 78)) hx hb hK hG (ga_78 g _) hg8 dX9_areAlike_11 ?_
  refine lv_icmp_ne (tgt := 19) hx hb dX9_areAlike_12 (by decide) (fun c9 => ?_) (fun c9 => ?_)
  · have h := ite_f c9 h
    refine lv_iconst (v := (0 : Int32)) hx hb dX9_areAlike_19 (by decide) ?_
    exact n20 x1 x2 (0 : Int32) _ _ _ (lv_sub hl [0, 1, 2] rfl) hG h
  · have h := ite_t c9 h
    refine lv_iconst (v := (1 : Int32)) hx hb dX9_areAlike_15 (by decide) ?_
    refine lv_goto (tgt := 20) hx hb dX9_areAlike_16 (by decide) ?_
    exact n20 x1 x2 (1 : Int32) _ _ _ (lv_sub hl [0, 1, 2] rfl) hG h

set_option maxHeartbeats 4000000 in
set_option maxRecDepth 100000 in
theorem c_M_partOnce (l : Launch) (g : GC) (σ : St) (r : Int32) (w_firstPair : Nat → Int32) (w_kindOf : Nat → Int32) (w_newKind : Nat → Int32) (w_signs : Nat → Int32) (h : M_partOnce (σ.1 3203) (σ.2.2.1 81) (σ.2.2.1 78) (σ.2.2.1 79) (σ.2.2.1 80) = some (r, w_firstPair, w_kindOf, w_newKind, w_signs)) : Cn l g yX9_partOnce (Cond.code yX9_partOnce cX9_partOnce 6 (some .int) :: wG) 1 26 [.ref (g.2.1 50)] σ (some (.int r)) (mkS σ [] [] [(81, w_firstPair), (78, w_kindOf), (79, w_newKind), (80, w_signs)] []) := by
  unfold Cn
  refine Met.ofW (cc := cX9_partOnce) (maxL := 6) (ret := (some .int)) (by decide) rfl ?_
  intro p e s m args below meth c s₁ B hml hv
  obtain ⟨hargs, hP0, hK⟩ := hv
  have hx := B.exec
  have hb := B.bytes
  have hr := B.returns
  have hts : ∀ w ∈ wG, w.before args s = true := fun w h => atoms_spec (ws := (Cond.code yX9_partOnce cX9_partOnce 6 (some .int) :: wG)) B.pre w (List.mem_cons_of_mem _ h)
  have hown : s.vm.findClass RX9 = some m.cls := findClass_of_methodNamed B.named
  have hlocks := B.notSynchronized
  have hS9 : CallFix p m c cX9_partOnce 6 s args wG RX9 := ⟨hx, hb, hml, hown, hts⟩
  have hw0 := hts _ mw_4_142
  have hw1 := hts _ mw_4_179
  have hw2 := hts _ mw_4_182
  have hw3 := hts _ mw_4_178
  have hf9 : entryFrame m args 6 = _ := (congrArg (fun a => entryFrame m a 6) hargs).trans (lg_entry_eq m [.ref (g.2.1 50)] 6)
  show Wg p l e 1 26 s m args below meth c g (some (.int r)) (mkS σ [] [] [(81, w_firstPair), (78, w_kindOf), (79, w_newKind), (80, w_signs)] []) s.heap [] (entryFrame m args 6)
  rw [hf9]
  have hl := lv_entry ([.ref (g.2.1 50)]) (n := 6) (Nat.le_of_ble_eq_true rfl)
  generalize (lg_sl ([.ref (g.2.1 50)]) ++ List.replicate (6 - (lg_sl ([.ref (g.2.1 50)])).length) Slot.unset).toArray = ls at hl ⊢
  have hl : lv_has ls 6 [(0, .ref (g.2.1 50))] := hl
  have hG : GW g s σ s.heap [] := ⟨hP0, va_S.rf⟩
  have hG : GW g s (mkS σ [] [] [(81, (σ.2.2.1 81)), (78, (σ.2.2.1 78)), (79, (σ.2.2.1 79)), (80, (σ.2.2.1 80))] []) s.heap [] := GW_self [] [] [81, 78, 79, 80] [] hG
  unfold M_partOnce at h
  have n32 : ∀ (k2 : Int32 → (Nat → Int32) → (Nat → Int32) → (Nat → Int32) → (Nat → Int32) → Option (Int32 × (Nat → Int32) × (Nat → Int32) × (Nat → Int32) × (Nat → Int32))) (hk2 : ∀ (x1 : Int32) (v_firstPair : Nat → Int32) (v_kindOf : Nat → Int32) (v_newKind : Nat → Int32) (v_signs : Nat → Int32) (H : Heap) (locs : List Loc) (ls : Array Slot), lv_has ls 6 [(0, .ref (g.2.1 50)), (1, .int x1)] → GW g s (mkS σ [] [] [(81, v_firstPair), (78, v_kindOf), (79, v_newKind), (80, v_signs)] []) H locs → k2 x1 v_firstPair v_kindOf v_newKind v_signs = some (r, w_firstPair, w_kindOf, w_newKind, w_signs) → Wg p l e 1 26 s m args below meth c g (some (.int r)) (mkS σ [] [] [(81, w_firstPair), (78, w_kindOf), (79, w_newKind), (80, w_signs)] []) H locs (F0 m 2 ls [])) (x1 : Int32) (v_firstPair : Nat → Int32) (v_kindOf : Nat → Int32) (v_newKind : Nat → Int32) (v_signs : Nat → Int32) (H : Heap) (locs : List Loc) (ls : Array Slot), lv_has ls 6 [(0, .ref (g.2.1 50)), (1, .int x1)] → GW g s (mkS σ [] [] [(81, v_firstPair), (78, v_kindOf), (79, v_newKind), (80, v_signs)] []) H locs → M_partOnce_n32 k2 x1 v_firstPair v_kindOf v_newKind v_signs = some (r, w_firstPair, w_kindOf, w_newKind, w_signs) → Wg p l e 1 26 s m args below meth c g (some (.int r)) (mkS σ [] [] [(81, w_firstPair), (78, w_kindOf), (79, w_newKind), (80, w_signs)] []) H locs (F0 m 32 ls []) := by
    intro k2 hk2 x1 v_firstPair v_kindOf v_newKind v_signs H locs ls hl hG h
    unfold M_partOnce_n32 at h
    refine lv_iinc (v := (x1 + (1 : Int32))) (lv' := [(1, .int (x1 + (1 : Int32))), (0, .ref (g.2.1 50))]) hx hb dX9_partOnce_32 hl (k := 1) rfl (congrArg (fun z => x1 + z) (by decide)) (Nat.le_of_ble_eq_true rfl) rfl (fun ls hl => ?_)
    refine lv_goto (tgt := 2) hx hb dX9_partOnce_35 (by decide) ?_
    exact hk2 (x1 + (1 : Int32)) v_firstPair v_kindOf v_newKind v_signs _ _ _ (lv_sub hl [1, 0] rfl) hG h
  have n12 : ∀ (k2 : Int32 → (Nat → Int32) → (Nat → Int32) → (Nat → Int32) → (Nat → Int32) → Option (Int32 × (Nat → Int32) × (Nat → Int32) × (Nat → Int32) × (Nat → Int32))) (hk2 : ∀ (x1 : Int32) (v_firstPair : Nat → Int32) (v_kindOf : Nat → Int32) (v_newKind : Nat → Int32) (v_signs : Nat → Int32) (H : Heap) (locs : List Loc) (ls : Array Slot), lv_has ls 6 [(0, .ref (g.2.1 50)), (1, .int x1)] → GW g s (mkS σ [] [] [(81, v_firstPair), (78, v_kindOf), (79, v_newKind), (80, v_signs)] []) H locs → k2 x1 v_firstPair v_kindOf v_newKind v_signs = some (r, w_firstPair, w_kindOf, w_newKind, w_signs) → Wg p l e 1 26 s m args below meth c g (some (.int r)) (mkS σ [] [] [(81, w_firstPair), (78, w_kindOf), (79, w_newKind), (80, w_signs)] []) H locs (F0 m 2 ls [])) (k12 : Int32 → Int32 → (Nat → Int32) → (Nat → Int32) → (Nat → Int32) → (Nat → Int32) → Option (Int32 × (Nat → Int32) × (Nat → Int32) × (Nat → Int32) × (Nat → Int32))) (hk12 : ∀ (x1 : Int32) (x2 : Int32) (v_firstPair : Nat → Int32) (v_kindOf : Nat → Int32) (v_newKind : Nat → Int32) (v_signs : Nat → Int32) (H : Heap) (locs : List Loc) (ls : Array Slot), lv_has ls 6 [(0, .ref (g.2.1 50)), (1, .int x1), (2, .int x2)] → GW g s (mkS σ [] [] [(81, v_firstPair), (78, v_kindOf), (79, v_newKind), (80, v_signs)] []) H locs → k12 x1 x2 v_firstPair v_kindOf v_newKind v_signs = some (r, w_firstPair, w_kindOf, w_newKind, w_signs) → Wg p l e 1 26 s m args below meth c g (some (.int r)) (mkS σ [] [] [(81, w_firstPair), (78, w_kindOf), (79, w_newKind), (80, w_signs)] []) H locs (F0 m 12 ls [])) (x1 : Int32) (x2 : Int32) (v_firstPair : Nat → Int32) (v_kindOf : Nat → Int32) (v_newKind : Nat → Int32) (v_signs : Nat → Int32) (H : Heap) (locs : List Loc) (ls : Array Slot), lv_has ls 6 [(0, .ref (g.2.1 50)), (1, .int x1), (2, .int x2)] → GW g s (mkS σ [] [] [(81, v_firstPair), (78, v_kindOf), (79, v_newKind), (80, v_signs)] []) H locs → M_partOnce_n12 k2 k12 (σ.1 3203) x1 x2 v_firstPair v_kindOf v_newKind v_signs = some (r, w_firstPair, w_kindOf, w_newKind, w_signs) → Wg p l e 1 26 s m args below meth c g (some (.int r)) (mkS σ [] [] [(81, w_firstPair), (78, w_kindOf), (79, w_newKind), (80, w_signs)] []) H locs (F0 m 12 ls []) := by
    intro k2 hk2 k12 hk12 x1 x2 v_firstPair v_kindOf v_newKind v_signs H locs ls hl hG h
    unfold M_partOnce_n12 at h
    refine lv_iload_n hx hb dX9_partOnce_12 rfl (lv_at hl 2 rfl) ?_
    refine lv_aload_n hx hb dX9_partOnce_13 rfl (lv_at hl 0 rfl) ?_
    refine gx_get (v := .int (σ.1 3203)) (C := RX9) (T := TX9) (N := 44) hx hb hts mc_X9 hown hK hG (ga_50 g _) rfl 3 (by decide) hw0 rfl rfl dX9_partOnce_14 ?_
    refine lv_icmp_ge (tgt := 32) hx hb dX9_partOnce_17 (by decide) (fun c1 => ?_) (fun c1 => ?_)
    · have h := ite_t c1 h
      exact n32 k2 hk2 x1 v_firstPair v_kindOf v_newKind v_signs _ _ _ (lv_sub hl [0, 1] rfl) hG h
    · have h := ite_f c1 h
      refine lv_aload_n hx hb dX9_partOnce_20 rfl (lv_at hl 0 rfl) ?_
      refine lv_iload_n hx hb dX9_partOnce_21 rfl (lv_at hl 1 rfl) ?_
      refine lv_iload_n hx hb dX9_partOnce_22 rfl (lv_at hl 2 rfl) ?_
      obtain ⟨z2, hc3, h⟩ := bnd_some h
      refine gx_cV (σ' := (mkS σ [] [] [(81, v_firstPair), (78, v_kindOf), (79, v_newKind), (80, z2)] [])) (r := none) (rest := []) (As := [.int x1, .int x2]) hS9 (c_M_sign l g (mkS σ [] [] [(81, v_firstPair), (78, v_kindOf), (79, v_newKind), (80, v_signs)] []) x1 x2 z2 hc3) (mk_mk rfl rfl rfl rfl) (cwV 2 hts (gz_V mw_6_106 mw_6_108 ms_5_7 mw_1_11 mw_6_109) rfl rfl rfl hdV_X9_sign ⟨Nat.le_of_ble_eq_true rfl, Nat.le_of_ble_eq_true rfl⟩) hK hG (ga_50 g _) rfl rfl rfl hl.1 rfl (Nat.le_of_ble_eq_true rfl) dX9_partOnce_23 (fun H locs hG => ?_)
      refine W.eq (g2 := F0 m 26 ls []) rfl ?_
      refine lv_iinc (v := (x2 + (1 : Int32))) (lv' := [(2, .int (x2 + (1 : Int32))), (0, .ref (g.2.1 50)), (1, .int x1)]) hx hb dX9_partOnce_26 hl (k := 2) rfl (congrArg (fun z => x2 + z) (by decide)) (Nat.le_of_ble_eq_true rfl) rfl (fun ls hl => ?_)
      refine lv_goto (tgt := 12) hx hb dX9_partOnce_29 (by decide) ?_
      exact hk12 x1 (x2 + (1 : Int32)) v_firstPair v_kindOf v_newKind z2 _ _ _ (lv_sub hl [1, 2, 0] rfl) hG h
  have l12 : ∀ (k2 : Int32 → (Nat → Int32) → (Nat → Int32) → (Nat → Int32) → (Nat → Int32) → Option (Int32 × (Nat → Int32) × (Nat → Int32) × (Nat → Int32) × (Nat → Int32))) (hk2 : ∀ (x1 : Int32) (v_firstPair : Nat → Int32) (v_kindOf : Nat → Int32) (v_newKind : Nat → Int32) (v_signs : Nat → Int32) (H : Heap) (locs : List Loc) (ls : Array Slot), lv_has ls 6 [(0, .ref (g.2.1 50)), (1, .int x1)] → GW g s (mkS σ [] [] [(81, v_firstPair), (78, v_kindOf), (79, v_newKind), (80, v_signs)] []) H locs → k2 x1 v_firstPair v_kindOf v_newKind v_signs = some (r, w_firstPair, w_kindOf, w_newKind, w_signs) → Wg p l e 1 26 s m args below meth c g (some (.int r)) (mkS σ [] [] [(81, w_firstPair), (78, w_kindOf), (79, w_newKind), (80, w_signs)] []) H locs (F0 m 2 ls [])) (F : Nat) (x1 : Int32) (x2 : Int32) (v_firstPair : Nat → Int32) (v_kindOf : Nat → Int32) (v_newKind : Nat → Int32) (v_signs : Nat → Int32) (H : Heap) (locs : List Loc) (ls : Array Slot), lv_has ls 6 [(0, .ref (g.2.1 50)), (1, .int x1), (2, .int x2)] → GW g s (mkS σ [] [] [(81, v_firstPair), (78, v_kindOf), (79, v_newKind), (80, v_signs)] []) H locs → M_partOnce_l12 k2 (σ.1 3203) F x1 x2 v_firstPair v_kindOf v_newKind v_signs = some (r, w_firstPair, w_kindOf, w_newKind, w_signs) → Wg p l e 1 26 s m args below meth c g (some (.int r)) (mkS σ [] [] [(81, w_firstPair), (78, w_kindOf), (79, w_newKind), (80, w_signs)] []) H locs (F0 m 12 ls []) := by
    intro k2 hk2 F
    induction F with
    | zero => intro x1 x2 v_firstPair v_kindOf v_newKind v_signs H locs ls hl hG h; exact no_some h
    | succ F ih => intro x1 x2 v_firstPair v_kindOf v_newKind v_signs H locs ls hl hG h; exact n12 k2 hk2 (fun x1 x2 v_firstPair v_kindOf v_newKind v_signs => M_partOnce_l12 k2 (σ.1 3203) F x1 x2 v_firstPair v_kindOf v_newKind v_signs) ih x1 x2 v_firstPair v_kindOf v_newKind v_signs H locs ls hl hG h
  have n116 : ∀ (k52 : Int32 → Int32 → Int32 → (Nat → Int32) → (Nat → Int32) → (Nat → Int32) → (Nat → Int32) → Option (Int32 × (Nat → Int32) × (Nat → Int32) × (Nat → Int32) × (Nat → Int32))) (hk52 : ∀ (x1 : Int32) (x2 : Int32) (x3 : Int32) (v_firstPair : Nat → Int32) (v_kindOf : Nat → Int32) (v_newKind : Nat → Int32) (v_signs : Nat → Int32) (H : Heap) (locs : List Loc) (ls : Array Slot), lv_has ls 6 [(0, .ref (g.2.1 50)), (1, .int x1), (2, .int x2), (3, .int x3)] → GW g s (mkS σ [] [] [(81, v_firstPair), (78, v_kindOf), (79, v_newKind), (80, v_signs)] []) H locs → k52 x1 x2 x3 v_firstPair v_kindOf v_newKind v_signs = some (r, w_firstPair, w_kindOf, w_newKind, w_signs) → Wg p l e 1 26 s m args below meth c g (some (.int r)) (mkS σ [] [] [(81, w_firstPair), (78, w_kindOf), (79, w_newKind), (80, w_signs)] []) H locs (F0 m 52 ls [])) (x1 : Int32) (x2 : Int32) (x3 : Int32) (x4 : Int32) (x5 : Int32) (v_firstPair : Nat → Int32) (v_kindOf : Nat → Int32) (v_newKind : Nat → Int32) (v_signs : Nat → Int32) (H : Heap) (locs : List Loc) (ls : Array Slot), lv_has ls 6 [(0, .ref (g.2.1 50)), (1, .int x1), (2, .int x2), (3, .int x3), (4, .int x4), (5, .int x5)] → GW g s (mkS σ [] [] [(81, v_firstPair), (78, v_kindOf), (79, v_newKind), (80, v_signs)] []) H locs → M_partOnce_n116 k52 x1 x2 x3 x4 x5 v_firstPair v_kindOf v_newKind v_signs = some (r, w_firstPair, w_kindOf, w_newKind, w_signs) → Wg p l e 1 26 s m args below meth c g (some (.int r)) (mkS σ [] [] [(81, w_firstPair), (78, w_kindOf), (79, w_newKind), (80, w_signs)] []) H locs (F0 m 116 ls []) := by
    intro k52 hk52 x1 x2 x3 x4 x5 v_firstPair v_kindOf v_newKind v_signs H locs ls hl hG h
    unfold M_partOnce_n116 at h
    refine lv_aload_n hx hb dX9_partOnce_116 rfl (lv_at hl 0 rfl) ?_
    refine gx_get (v := .ref (g.2.1 79)) (C := RX9) (T := TX9) (N := 44) hx hb hts mc_X9 hown hK hG (ga_50 g _) rfl 40 (by decide) hw1 rfl rfl dX9_partOnce_117 ?_
    refine lv_iload hx hb dX9_partOnce_120 (lv_at hl 4 rfl) ?_
    refine lv_iload hx hb dX9_partOnce_122 (lv_at hl 5 rfl) ?_
    obtain ⟨hg4, h⟩ := gd_some h
    refine gx_iast (σ' := (mkS σ [] [] [(81, v_firstPair), (78, v_kindOf), (79, (upd v_newKind (x4.toNatClampNeg) x5)), (80, v_signs)] [])) (f := v_newKind) hx hb hK hG (ga_79 g _) hg4 ((gs_79 g _ _).trans (congrArg (g_cells g) (mk_c 2 rfl rfl))) dX9_partOnce_124 (fun H locs hG => ?_)
    refine lv_iinc (v := (x3 + (1 : Int32))) (lv' := [(3, .int (x3 + (1 : Int32))), (0, .ref (g.2.1 50)), (1, .int x1), (2, .int x2), (4, .int x4), (5, .int x5)]) hx hb dX9_partOnce_125 hl (k := 3) rfl (congrArg (fun z => x3 + z) (by decide)) (Nat.le_of_ble_eq_true rfl) rfl (fun ls hl => ?_)
    refine lv_goto (tgt := 52) hx hb dX9_partOnce_128 (by decide) ?_
    exact hk52 x1 x2 (x3 + (1 : Int32)) v_firstPair v_kindOf (upd v_newKind (x4.toNatClampNeg) x5) v_signs _ _ _ (lv_sub hl [1, 2, 3, 0] rfl) hG h
  have n99 : ∀ (k52 : Int32 → Int32 → Int32 → (Nat → Int32) → (Nat → Int32) → (Nat → Int32) → (Nat → Int32) → Option (Int32 × (Nat → Int32) × (Nat → Int32) × (Nat → Int32) × (Nat → Int32))) (hk52 : ∀ (x1 : Int32) (x2 : Int32) (x3 : Int32) (v_firstPair : Nat → Int32) (v_kindOf : Nat → Int32) (v_newKind : Nat → Int32) (v_signs : Nat → Int32) (H : Heap) (locs : List Loc) (ls : Array Slot), lv_has ls 6 [(0, .ref (g.2.1 50)), (1, .int x1), (2, .int x2), (3, .int x3)] → GW g s (mkS σ [] [] [(81, v_firstPair), (78, v_kindOf), (79, v_newKind), (80, v_signs)] []) H locs → k52 x1 x2 x3 v_firstPair v_kindOf v_newKind v_signs = some (r, w_firstPair, w_kindOf, w_newKind, w_signs) → Wg p l e 1 26 s m args below meth c g (some (.int r)) (mkS σ [] [] [(81, w_firstPair), (78, w_kindOf), (79, w_newKind), (80, w_signs)] []) H locs (F0 m 52 ls [])) (x1 : Int32) (x2 : Int32) (x3 : Int32) (x4 : Int32) (x5 : Int32) (v_firstPair : Nat → Int32) (v_kindOf : Nat → Int32) (v_newKind : Nat → Int32) (v_signs : Nat → Int32) (H : Heap) (locs : List Loc) (ls : Array Slot), lv_has ls 6 [(0, .ref (g.2.1 50)), (1, .int x1), (2, .int x2), (3, .int x3), (4, .int x4), (5, .int x5)] → GW g s (mkS σ [] [] [(81, v_firstPair), (78, v_kindOf), (79, v_newKind), (80, v_signs)] []) H locs → M_partOnce_n99 k52 x1 x2 x3 x4 x5 v_firstPair v_kindOf v_newKind v_signs = some (r, w_firstPair, w_kindOf, w_newKind, w_signs) → Wg p l e 1 26 s m args below meth c g (some (.int r)) (mkS σ [] [] [(81, w_firstPair), (78, w_kindOf), (79, w_newKind), (80, w_signs)] []) H locs (F0 m 99 ls []) := by
    intro k52 hk52 x1 x2 x3 x4 x5 v_firstPair v_kindOf v_newKind v_signs H locs ls hl hG h
    unfold M_partOnce_n99 at h
    refine lv_iload hx hb dX9_partOnce_99 (lv_at hl 5 rfl) ?_
    refine lv_iload_n hx hb dX9_partOnce_101 rfl (lv_at hl 1 rfl) ?_
    refine lv_icmp_ne (tgt := 116) hx hb dX9_partOnce_102 (by decide) (fun c5 => ?_) (fun c5 => ?_)
    · have h := ite_f c5 h
      exact n116 k52 hk52 x1 x2 x3 x4 x5 v_firstPair v_kindOf v_newKind v_signs _ _ _ (lv_sub hl [0, 1, 2, 3, 4, 5] rfl) hG h
    · have h := ite_t c5 h
      refine lv_aload_n hx hb dX9_partOnce_105 rfl (lv_at hl 0 rfl) ?_
      refine gx_get (v := .ref (g.2.1 81)) (C := RX9) (T := TX9) (N := 44) hx hb hts mc_X9 hown hK hG (ga_50 g _) rfl 43 (by decide) hw2 rfl rfl dX9_partOnce_106 ?_
      refine lv_iload_n hx hb dX9_partOnce_109 rfl (lv_at hl 1 rfl) ?_
      refine lv_iload hx hb dX9_partOnce_110 (lv_at hl 4 rfl) ?_
      obtain ⟨hg6, h⟩ := gd_some h
      refine gx_iast (σ' := (mkS σ [] [] [(81, (upd v_firstPair (x1.toNatClampNeg) x4)), (78, v_kindOf), (79, v_newKind), (80, v_signs)] [])) (f := v_firstPair) hx hb hK hG (ga_81 g _) hg6 ((gs_81 g _ _).trans (congrArg (g_cells g) (mk_c 0 rfl rfl))) dX9_partOnce_112 (fun H locs hG => ?_)
      refine lv_iinc (v := (x1 + (1 : Int32))) (lv' := [(1, .int (x1 + (1 : Int32))), (0, .ref (g.2.1 50)), (2, .int x2), (3, .int x3), (4, .int x4), (5, .int x5)]) hx hb dX9_partOnce_113 hl (k := 1) rfl (congrArg (fun z => x1 + z) (by decide)) (Nat.le_of_ble_eq_true rfl) rfl (fun ls hl => ?_)
      exact n116 k52 hk52 (x1 + (1 : Int32)) x2 x3 x4 x5 (upd v_firstPair (x1.toNatClampNeg) x4) v_kindOf v_newKind v_signs _ _ _ (lv_sub hl [1, 0, 2, 3, 4, 5] rfl) hG h
  have n71 : ∀ (k52 : Int32 → Int32 → Int32 → (Nat → Int32) → (Nat → Int32) → (Nat → Int32) → (Nat → Int32) → Option (Int32 × (Nat → Int32) × (Nat → Int32) × (Nat → Int32) × (Nat → Int32))) (hk52 : ∀ (x1 : Int32) (x2 : Int32) (x3 : Int32) (v_firstPair : Nat → Int32) (v_kindOf : Nat → Int32) (v_newKind : Nat → Int32) (v_signs : Nat → Int32) (H : Heap) (locs : List Loc) (ls : Array Slot), lv_has ls 6 [(0, .ref (g.2.1 50)), (1, .int x1), (2, .int x2), (3, .int x3)] → GW g s (mkS σ [] [] [(81, v_firstPair), (78, v_kindOf), (79, v_newKind), (80, v_signs)] []) H locs → k52 x1 x2 x3 v_firstPair v_kindOf v_newKind v_signs = some (r, w_firstPair, w_kindOf, w_newKind, w_signs) → Wg p l e 1 26 s m args below meth c g (some (.int r)) (mkS σ [] [] [(81, w_firstPair), (78, w_kindOf), (79, w_newKind), (80, w_signs)] []) H locs (F0 m 52 ls [])) (k71 : Int32 → Int32 → Int32 → Int32 → Int32 → (Nat → Int32) → (Nat → Int32) → (Nat → Int32) → (Nat → Int32) → Option (Int32 × (Nat → Int32) × (Nat → Int32) × (Nat → Int32) × (Nat → Int32))) (hk71 : ∀ (x1 : Int32) (x2 : Int32) (x3 : Int32) (x4 : Int32) (x5 : Int32) (v_firstPair : Nat → Int32) (v_kindOf : Nat → Int32) (v_newKind : Nat → Int32) (v_signs : Nat → Int32) (H : Heap) (locs : List Loc) (ls : Array Slot), lv_has ls 6 [(0, .ref (g.2.1 50)), (1, .int x1), (2, .int x2), (3, .int x3), (4, .int x4), (5, .int x5)] → GW g s (mkS σ [] [] [(81, v_firstPair), (78, v_kindOf), (79, v_newKind), (80, v_signs)] []) H locs → k71 x1 x2 x3 x4 x5 v_firstPair v_kindOf v_newKind v_signs = some (r, w_firstPair, w_kindOf, w_newKind, w_signs) → Wg p l e 1 26 s m args below meth c g (some (.int r)) (mkS σ [] [] [(81, w_firstPair), (78, w_kindOf), (79, w_newKind), (80, w_signs)] []) H locs (F0 m 71 ls [])) (x1 : Int32) (x2 : Int32) (x3 : Int32) (x4 : Int32) (x5 : Int32) (v_firstPair : Nat → Int32) (v_kindOf : Nat → Int32) (v_newKind : Nat → Int32) (v_signs : Nat → Int32) (H : Heap) (locs : List Loc) (ls : Array Slot), lv_has ls 6 [(0, .ref (g.2.1 50)), (1, .int x1), (2, .int x2), (3, .int x3), (4, .int x4), (5, .int x5)] → GW g s (mkS σ [] [] [(81, v_firstPair), (78, v_kindOf), (79, v_newKind), (80, v_signs)] []) H locs → M_partOnce_n71 k52 k71 (σ.1 3203) x1 x2 x3 x4 x5 v_firstPair v_kindOf v_newKind v_signs = some (r, w_firstPair, w_kindOf, w_newKind, w_signs) → Wg p l e 1 26 s m args below meth c g (some (.int r)) (mkS σ [] [] [(81, w_firstPair), (78, w_kindOf), (79, w_newKind), (80, w_signs)] []) H locs (F0 m 71 ls []) := by
    intro k52 hk52 k71 hk71 x1 x2 x3 x4 x5 v_firstPair v_kindOf v_newKind v_signs H locs ls hl hG h
    unfold M_partOnce_n71 at h
    refine lv_iload hx hb dX9_partOnce_71 (lv_at hl 5 rfl) ?_
    refine lv_iload_n hx hb dX9_partOnce_73 rfl (lv_at hl 1 rfl) ?_
    refine lv_icmp_ge (tgt := 99) hx hb dX9_partOnce_74 (by decide) (fun c7 => ?_) (fun c7 => ?_)
    · have h := ite_t c7 h
      exact n99 k52 hk52 x1 x2 x3 x4 x5 v_firstPair v_kindOf v_newKind v_signs _ _ _ (lv_sub hl [0, 1, 2, 3, 4, 5] rfl) hG h
    · have h := ite_f c7 h
      refine lv_aload_n hx hb dX9_partOnce_77 rfl (lv_at hl 0 rfl) ?_
      refine lv_aload_n hx hb dX9_partOnce_78 rfl (lv_at hl 0 rfl) ?_
      refine gx_get (v := .ref (g.2.1 81)) (C := RX9) (T := TX9) (N := 44) hx hb hts mc_X9 hown hK hG (ga_50 g _) rfl 43 (by decide) hw2 rfl rfl dX9_partOnce_79 ?_
      refine lv_iload hx hb dX9_partOnce_82 (lv_at hl 5 rfl) ?_
      obtain ⟨hg8, h⟩ := gd_some h
      refine gx_iald (f := v_firstPair) hx hb hK hG (ga_81 g _) hg8 dX9_partOnce_84 ?_
      refine lv_iload hx hb dX9_partOnce_85 (lv_at hl 4 rfl) ?_
      obtain ⟨z9, hc10, h⟩ := bnd_some h
      refine gx_cV (σ' := (mkS σ [] [] [(81, v_firstPair), (78, v_kindOf), (79, v_newKind), (80, v_signs)] [])) (r := (some (.int z9))) (rest := []) (As := [.int (v_firstPair (x5.toNatClampNeg)), .int x4]) hS9 (c_M_areAlike l g (mkS σ [] [] [(81, v_firstPair), (78, v_kindOf), (79, v_newKind), (80, v_signs)] []) (v_firstPair (x5.toNatClampNeg)) x4 z9 hc10) rfl (cwV 2 hts (gz_V mw_6_110 mw_6_112 ms_5_8 mw_1_11 mw_6_113) rfl rfl rfl hdV_X9_areAlike ⟨Nat.le_of_ble_eq_true rfl, Nat.le_of_ble_eq_true rfl⟩) hK hG (ga_50 g _) rfl rfl rfl hl.1 rfl (Nat.le_of_ble_eq_true rfl) dX9_partOnce_87 (fun H locs hG => ?_)
      refine W.eq (g2 := F0 m 90 ls [.int z9]) rfl ?_
      refine lv_if_ne (tgt := 99) hx hb dX9_partOnce_90 (by decide) (fun c11 => ?_) (fun c11 => ?_)
      · have h := ite_f c11 h
        exact n99 k52 hk52 x1 x2 x3 x4 x5 v_firstPair v_kindOf v_newKind v_signs _ _ _ (lv_sub hl [0, 1, 2, 3, 4, 5] rfl) hG h
      · have h := ite_t c11 h
        refine lv_iinc (v := (x5 + (1 : Int32))) (lv' := [(5, .int (x5 + (1 : Int32))), (0, .ref (g.2.1 50)), (1, .int x1), (2, .int x2), (3, .int x3), (4, .int x4)]) hx hb dX9_partOnce_93 hl (k := 5) rfl (congrArg (fun z => x5 + z) (by decide)) (Nat.le_of_ble_eq_true rfl) rfl (fun ls hl => ?_)
        refine lv_goto (tgt := 71) hx hb dX9_partOnce_96 (by decide) ?_
        exact hk71 x1 x2 x3 x4 (x5 + (1 : Int32)) v_firstPair v_kindOf v_newKind v_signs _ _ _ (lv_sub hl [1, 2, 3, 4, 5, 0] rfl) hG h
  have l71 : ∀ (k52 : Int32 → Int32 → Int32 → (Nat → Int32) → (Nat → Int32) → (Nat → Int32) → (Nat → Int32) → Option (Int32 × (Nat → Int32) × (Nat → Int32) × (Nat → Int32) × (Nat → Int32))) (hk52 : ∀ (x1 : Int32) (x2 : Int32) (x3 : Int32) (v_firstPair : Nat → Int32) (v_kindOf : Nat → Int32) (v_newKind : Nat → Int32) (v_signs : Nat → Int32) (H : Heap) (locs : List Loc) (ls : Array Slot), lv_has ls 6 [(0, .ref (g.2.1 50)), (1, .int x1), (2, .int x2), (3, .int x3)] → GW g s (mkS σ [] [] [(81, v_firstPair), (78, v_kindOf), (79, v_newKind), (80, v_signs)] []) H locs → k52 x1 x2 x3 v_firstPair v_kindOf v_newKind v_signs = some (r, w_firstPair, w_kindOf, w_newKind, w_signs) → Wg p l e 1 26 s m args below meth c g (some (.int r)) (mkS σ [] [] [(81, w_firstPair), (78, w_kindOf), (79, w_newKind), (80, w_signs)] []) H locs (F0 m 52 ls [])) (F : Nat) (x1 : Int32) (x2 : Int32) (x3 : Int32) (x4 : Int32) (x5 : Int32) (v_firstPair : Nat → Int32) (v_kindOf : Nat → Int32) (v_newKind : Nat → Int32) (v_signs : Nat → Int32) (H : Heap) (locs : List Loc) (ls : Array Slot), lv_has ls 6 [(0, .ref (g.2.1 50)), (1, .int x1), (2, .int x2), (3, .int x3), (4, .int x4), (5, .int x5)] → GW g s (mkS σ [] [] [(81, v_firstPair), (78, v_kindOf), (79, v_newKind), (80, v_signs)] []) H locs → M_partOnce_l71 k52 (σ.1 3203) F x1 x2 x3 x4 x5 v_firstPair v_kindOf v_newKind v_signs = some (r, w_firstPair, w_kindOf, w_newKind, w_signs) → Wg p l e 1 26 s m args below meth c g (some (.int r)) (mkS σ [] [] [(81, w_firstPair), (78, w_kindOf), (79, w_newKind), (80, w_signs)] []) H locs (F0 m 71 ls []) := by
    intro k52 hk52 F
    induction F with
    | zero => intro x1 x2 x3 x4 x5 v_firstPair v_kindOf v_newKind v_signs H locs ls hl hG h; exact no_some h
    | succ F ih => intro x1 x2 x3 x4 x5 v_firstPair v_kindOf v_newKind v_signs H locs ls hl hG h; exact n71 k52 hk52 (fun x1 x2 x3 x4 x5 v_firstPair v_kindOf v_newKind v_signs => M_partOnce_l71 k52 (σ.1 3203) F x1 x2 x3 x4 x5 v_firstPair v_kindOf v_newKind v_signs) ih x1 x2 x3 x4 x5 v_firstPair v_kindOf v_newKind v_signs H locs ls hl hG h
  have n131 : ∀ (k42 : Int32 → Int32 → (Nat → Int32) → (Nat → Int32) → (Nat → Int32) → (Nat → Int32) → Option (Int32 × (Nat → Int32) × (Nat → Int32) × (Nat → Int32) × (Nat → Int32))) (hk42 : ∀ (x1 : Int32) (x2 : Int32) (v_firstPair : Nat → Int32) (v_kindOf : Nat → Int32) (v_newKind : Nat → Int32) (v_signs : Nat → Int32) (H : Heap) (locs : List Loc) (ls : Array Slot), lv_has ls 6 [(0, .ref (g.2.1 50)), (1, .int x1), (2, .int x2)] → GW g s (mkS σ [] [] [(81, v_firstPair), (78, v_kindOf), (79, v_newKind), (80, v_signs)] []) H locs → k42 x1 x2 v_firstPair v_kindOf v_newKind v_signs = some (r, w_firstPair, w_kindOf, w_newKind, w_signs) → Wg p l e 1 26 s m args below meth c g (some (.int r)) (mkS σ [] [] [(81, w_firstPair), (78, w_kindOf), (79, w_newKind), (80, w_signs)] []) H locs (F0 m 42 ls [])) (x1 : Int32) (x2 : Int32) (v_firstPair : Nat → Int32) (v_kindOf : Nat → Int32) (v_newKind : Nat → Int32) (v_signs : Nat → Int32) (H : Heap) (locs : List Loc) (ls : Array Slot), lv_has ls 6 [(0, .ref (g.2.1 50)), (1, .int x1), (2, .int x2)] → GW g s (mkS σ [] [] [(81, v_firstPair), (78, v_kindOf), (79, v_newKind), (80, v_signs)] []) H locs → M_partOnce_n131 k42 x1 x2 v_firstPair v_kindOf v_newKind v_signs = some (r, w_firstPair, w_kindOf, w_newKind, w_signs) → Wg p l e 1 26 s m args below meth c g (some (.int r)) (mkS σ [] [] [(81, w_firstPair), (78, w_kindOf), (79, w_newKind), (80, w_signs)] []) H locs (F0 m 131 ls []) := by
    intro k42 hk42 x1 x2 v_firstPair v_kindOf v_newKind v_signs H locs ls hl hG h
    unfold M_partOnce_n131 at h
    refine lv_iinc (v := (x2 + (1 : Int32))) (lv' := [(2, .int (x2 + (1 : Int32))), (0, .ref (g.2.1 50)), (1, .int x1)]) hx hb dX9_partOnce_131 hl (k := 2) rfl (congrArg (fun z => x2 + z) (by decide)) (Nat.le_of_ble_eq_true rfl) rfl (fun ls hl => ?_)
    refine lv_goto (tgt := 42) hx hb dX9_partOnce_134 (by decide) ?_
    exact hk42 x1 (x2 + (1 : Int32)) v_firstPair v_kindOf v_newKind v_signs _ _ _ (lv_sub hl [1, 2, 0] rfl) hG h
  have n52 : ∀ (k42 : Int32 → Int32 → (Nat → Int32) → (Nat → Int32) → (Nat → Int32) → (Nat → Int32) → Option (Int32 × (Nat → Int32) × (Nat → Int32) × (Nat → Int32) × (Nat → Int32))) (hk42 : ∀ (x1 : Int32) (x2 : Int32) (v_firstPair : Nat → Int32) (v_kindOf : Nat → Int32) (v_newKind : Nat → Int32) (v_signs : Nat → Int32) (H : Heap) (locs : List Loc) (ls : Array Slot), lv_has ls 6 [(0, .ref (g.2.1 50)), (1, .int x1), (2, .int x2)] → GW g s (mkS σ [] [] [(81, v_firstPair), (78, v_kindOf), (79, v_newKind), (80, v_signs)] []) H locs → k42 x1 x2 v_firstPair v_kindOf v_newKind v_signs = some (r, w_firstPair, w_kindOf, w_newKind, w_signs) → Wg p l e 1 26 s m args below meth c g (some (.int r)) (mkS σ [] [] [(81, w_firstPair), (78, w_kindOf), (79, w_newKind), (80, w_signs)] []) H locs (F0 m 42 ls [])) (k52 : Int32 → Int32 → Int32 → (Nat → Int32) → (Nat → Int32) → (Nat → Int32) → (Nat → Int32) → Option (Int32 × (Nat → Int32) × (Nat → Int32) × (Nat → Int32) × (Nat → Int32))) (hk52 : ∀ (x1 : Int32) (x2 : Int32) (x3 : Int32) (v_firstPair : Nat → Int32) (v_kindOf : Nat → Int32) (v_newKind : Nat → Int32) (v_signs : Nat → Int32) (H : Heap) (locs : List Loc) (ls : Array Slot), lv_has ls 6 [(0, .ref (g.2.1 50)), (1, .int x1), (2, .int x2), (3, .int x3)] → GW g s (mkS σ [] [] [(81, v_firstPair), (78, v_kindOf), (79, v_newKind), (80, v_signs)] []) H locs → k52 x1 x2 x3 v_firstPair v_kindOf v_newKind v_signs = some (r, w_firstPair, w_kindOf, w_newKind, w_signs) → Wg p l e 1 26 s m args below meth c g (some (.int r)) (mkS σ [] [] [(81, w_firstPair), (78, w_kindOf), (79, w_newKind), (80, w_signs)] []) H locs (F0 m 52 ls [])) (x1 : Int32) (x2 : Int32) (x3 : Int32) (v_firstPair : Nat → Int32) (v_kindOf : Nat → Int32) (v_newKind : Nat → Int32) (v_signs : Nat → Int32) (H : Heap) (locs : List Loc) (ls : Array Slot), lv_has ls 6 [(0, .ref (g.2.1 50)), (1, .int x1), (2, .int x2), (3, .int x3)] → GW g s (mkS σ [] [] [(81, v_firstPair), (78, v_kindOf), (79, v_newKind), (80, v_signs)] []) H locs → M_partOnce_n52 k42 k52 (σ.1 3203) x1 x2 x3 v_firstPair v_kindOf v_newKind v_signs = some (r, w_firstPair, w_kindOf, w_newKind, w_signs) → Wg p l e 1 26 s m args below meth c g (some (.int r)) (mkS σ [] [] [(81, w_firstPair), (78, w_kindOf), (79, w_newKind), (80, w_signs)] []) H locs (F0 m 52 ls []) := by
    intro k42 hk42 k52 hk52 x1 x2 x3 v_firstPair v_kindOf v_newKind v_signs H locs ls hl hG h
    unfold M_partOnce_n52 at h
    refine lv_iload_n hx hb dX9_partOnce_52 rfl (lv_at hl 3 rfl) ?_
    refine lv_aload_n hx hb dX9_partOnce_53 rfl (lv_at hl 0 rfl) ?_
    refine gx_get (v := .int (σ.1 3203)) (C := RX9) (T := TX9) (N := 44) hx hb hts mc_X9 hown hK hG (ga_50 g _) rfl 3 (by decide) hw0 rfl rfl dX9_partOnce_54 ?_
    refine lv_icmp_ge (tgt := 131) hx hb dX9_partOnce_57 (by decide) (fun c12 => ?_) (fun c12 => ?_)
    · have h := ite_t c12 h
      exact n131 k42 hk42 x1 x2 v_firstPair v_kindOf v_newKind v_signs _ _ _ (lv_sub hl [0, 1, 2] rfl) hG h
    · have h := ite_f c12 h
      refine lv_bipush (v := (32 : Int32)) hx hb dX9_partOnce_60 (by decide) ?_
      refine lv_iload_n hx hb dX9_partOnce_62 rfl (lv_at hl 2 rfl) ?_
      refine lv_imul hx hb dX9_partOnce_63 ?_
      refine lv_iload_n hx hb dX9_partOnce_64 rfl (lv_at hl 3 rfl) ?_
      refine lv_iadd hx hb dX9_partOnce_65 ?_
      refine lv_istore (lv' := [(4, .int (((32 : Int32) * x2) + x3)), (0, .ref (g.2.1 50)), (1, .int x1), (2, .int x2), (3, .int x3)]) hx hb dX9_partOnce_66 hl (Nat.le_of_ble_eq_true rfl) rfl (fun ls hl => ?_)
      refine lv_iconst (v := (0 : Int32)) hx hb dX9_partOnce_68 (by decide) ?_
      refine lv_istore (lv' := [(5, .int (0 : Int32)), (4, .int (((32 : Int32) * x2) + x3)), (0, .ref (g.2.1 50)), (1, .int x1), (2, .int x2), (3, .int x3)]) hx hb dX9_partOnce_69 hl (Nat.le_of_ble_eq_true rfl) rfl (fun ls hl => ?_)
      exact l71 k52 hk52 FUEL x1 x2 x3 (((32 : Int32) * x2) + x3) (0 : Int32) v_firstPair v_kindOf v_newKind v_signs _ _ _ (lv_sub hl [2, 3, 4, 5, 1, 0] rfl) hG h
  have l52 : ∀ (k42 : Int32 → Int32 → (Nat → Int32) → (Nat → Int32) → (Nat → Int32) → (Nat → Int32) → Option (Int32 × (Nat → Int32) × (Nat → Int32) × (Nat → Int32) × (Nat → Int32))) (hk42 : ∀ (x1 : Int32) (x2 : Int32) (v_firstPair : Nat → Int32) (v_kindOf : Nat → Int32) (v_newKind : Nat → Int32) (v_signs : Nat → Int32) (H : Heap) (locs : List Loc) (ls : Array Slot), lv_has ls 6 [(0, .ref (g.2.1 50)), (1, .int x1), (2, .int x2)] → GW g s (mkS σ [] [] [(81, v_firstPair), (78, v_kindOf), (79, v_newKind), (80, v_signs)] []) H locs → k42 x1 x2 v_firstPair v_kindOf v_newKind v_signs = some (r, w_firstPair, w_kindOf, w_newKind, w_signs) → Wg p l e 1 26 s m args below meth c g (some (.int r)) (mkS σ [] [] [(81, w_firstPair), (78, w_kindOf), (79, w_newKind), (80, w_signs)] []) H locs (F0 m 42 ls [])) (F : Nat) (x1 : Int32) (x2 : Int32) (x3 : Int32) (v_firstPair : Nat → Int32) (v_kindOf : Nat → Int32) (v_newKind : Nat → Int32) (v_signs : Nat → Int32) (H : Heap) (locs : List Loc) (ls : Array Slot), lv_has ls 6 [(0, .ref (g.2.1 50)), (1, .int x1), (2, .int x2), (3, .int x3)] → GW g s (mkS σ [] [] [(81, v_firstPair), (78, v_kindOf), (79, v_newKind), (80, v_signs)] []) H locs → M_partOnce_l52 k42 (σ.1 3203) F x1 x2 x3 v_firstPair v_kindOf v_newKind v_signs = some (r, w_firstPair, w_kindOf, w_newKind, w_signs) → Wg p l e 1 26 s m args below meth c g (some (.int r)) (mkS σ [] [] [(81, w_firstPair), (78, w_kindOf), (79, w_newKind), (80, w_signs)] []) H locs (F0 m 52 ls []) := by
    intro k42 hk42 F
    induction F with
    | zero => intro x1 x2 x3 v_firstPair v_kindOf v_newKind v_signs H locs ls hl hG h; exact no_some h
    | succ F ih => intro x1 x2 x3 v_firstPair v_kindOf v_newKind v_signs H locs ls hl hG h; exact n52 k42 hk42 (fun x1 x2 x3 v_firstPair v_kindOf v_newKind v_signs => M_partOnce_l52 k42 (σ.1 3203) F x1 x2 x3 v_firstPair v_kindOf v_newKind v_signs) ih x1 x2 x3 v_firstPair v_kindOf v_newKind v_signs H locs ls hl hG h
  have n164 : ∀ (x1 : Int32) (v_firstPair : Nat → Int32) (v_kindOf : Nat → Int32) (v_newKind : Nat → Int32) (v_signs : Nat → Int32) (H : Heap) (locs : List Loc) (ls : Array Slot), lv_has ls 6 [(1, .int x1)] → GW g s (mkS σ [] [] [(81, v_firstPair), (78, v_kindOf), (79, v_newKind), (80, v_signs)] []) H locs → M_partOnce_n164 x1 v_firstPair v_kindOf v_newKind v_signs = some (r, w_firstPair, w_kindOf, w_newKind, w_signs) → Wg p l e 1 26 s m args below meth c g (some (.int r)) (mkS σ [] [] [(81, w_firstPair), (78, w_kindOf), (79, w_newKind), (80, w_signs)] []) H locs (F0 m 164 ls []) := by
    intro x1 v_firstPair v_kindOf v_newKind v_signs H locs ls hl hG h
    unfold M_partOnce_n164 at h
    refine lv_iload_n hx hb dX9_partOnce_164 rfl (lv_at hl 0 rfl) ?_
    cases h
    exact gx_iret hx hb hr hlocks hG dX9_partOnce_165
  have n139 : ∀ (k139 : Int32 → Int32 → (Nat → Int32) → (Nat → Int32) → (Nat → Int32) → (Nat → Int32) → Option (Int32 × (Nat → Int32) × (Nat → Int32) × (Nat → Int32) × (Nat → Int32))) (hk139 : ∀ (x1 : Int32) (x2 : Int32) (v_firstPair : Nat → Int32) (v_kindOf : Nat → Int32) (v_newKind : Nat → Int32) (v_signs : Nat → Int32) (H : Heap) (locs : List Loc) (ls : Array Slot), lv_has ls 6 [(0, .ref (g.2.1 50)), (1, .int x1), (2, .int x2)] → GW g s (mkS σ [] [] [(81, v_firstPair), (78, v_kindOf), (79, v_newKind), (80, v_signs)] []) H locs → k139 x1 x2 v_firstPair v_kindOf v_newKind v_signs = some (r, w_firstPair, w_kindOf, w_newKind, w_signs) → Wg p l e 1 26 s m args below meth c g (some (.int r)) (mkS σ [] [] [(81, w_firstPair), (78, w_kindOf), (79, w_newKind), (80, w_signs)] []) H locs (F0 m 139 ls [])) (x1 : Int32) (x2 : Int32) (v_firstPair : Nat → Int32) (v_kindOf : Nat → Int32) (v_newKind : Nat → Int32) (v_signs : Nat → Int32) (H : Heap) (locs : List Loc) (ls : Array Slot), lv_has ls 6 [(0, .ref (g.2.1 50)), (1, .int x1), (2, .int x2)] → GW g s (mkS σ [] [] [(81, v_firstPair), (78, v_kindOf), (79, v_newKind), (80, v_signs)] []) H locs → M_partOnce_n139 k139 x1 x2 v_firstPair v_kindOf v_newKind v_signs = some (r, w_firstPair, w_kindOf, w_newKind, w_signs) → Wg p l e 1 26 s m args below meth c g (some (.int r)) (mkS σ [] [] [(81, w_firstPair), (78, w_kindOf), (79, w_newKind), (80, w_signs)] []) H locs (F0 m 139 ls []) := by
    intro k139 hk139 x1 x2 v_firstPair v_kindOf v_newKind v_signs H locs ls hl hG h
    unfold M_partOnce_n139 at h
    refine lv_iload_n hx hb dX9_partOnce_139 rfl (lv_at hl 2 rfl) ?_
    refine lv_sipush (v := (1024 : Int32)) hx hb dX9_partOnce_140 (by decide) ?_
    refine lv_icmp_ge (tgt := 164) hx hb dX9_partOnce_143 (by decide) (fun c13 => ?_) (fun c13 => ?_)
    · have h := ite_t c13 h
      exact n164 x1 v_firstPair v_kindOf v_newKind v_signs _ _ _ (lv_sub hl [1] rfl) hG h
    · have h := ite_f c13 h
      refine lv_aload_n hx hb dX9_partOnce_146 rfl (lv_at hl 0 rfl) ?_
      refine gx_get (v := .ref (g.2.1 78)) (C := RX9) (T := TX9) (N := 44) hx hb hts mc_X9 hown hK hG (ga_50 g _) rfl 39 (by decide) hw3 rfl rfl dX9_partOnce_147 ?_
      refine lv_iload_n hx hb dX9_partOnce_150 rfl (lv_at hl 2 rfl) ?_
      refine lv_aload_n hx hb dX9_partOnce_151 rfl (lv_at hl 0 rfl) ?_
      refine gx_get (v := .ref (g.2.1 79)) (C := RX9) (T := TX9) (N := 44) hx hb hts mc_X9 hown hK hG (ga_50 g _) rfl 40 (by decide) hw1 rfl rfl dX9_partOnce_152 ?_
      refine lv_iload_n hx hb dX9_partOnce_155 rfl (lv_at hl 2 rfl) ?_
      obtain ⟨hg14, h⟩ := gd_some h
      refine gx_iald (f := v_newKind) hx hb hK hG (ga_79 g _) hg14 dX9_partOnce_156 ?_
      refine gx_iast (σ' := (mkS σ [] [] [(81, v_firstPair), (78, (upd v_kindOf (x2.toNatClampNeg) (v_newKind (x2.toNatClampNeg)))), (79, v_newKind), (80, v_signs)] [])) (f := v_kindOf) hx hb hK hG (ga_78 g _) hg14 ((gs_78 g _ _).trans (congrArg (g_cells g) (mk_c 1 rfl rfl))) dX9_partOnce_157 (fun H locs hG => ?_)
      refine lv_iinc (v := (x2 + (1 : Int32))) (lv' := [(2, .int (x2 + (1 : Int32))), (0, .ref (g.2.1 50)), (1, .int x1)]) hx hb dX9_partOnce_158 hl (k := 2) rfl (congrArg (fun z => x2 + z) (by decide)) (Nat.le_of_ble_eq_true rfl) rfl (fun ls hl => ?_)
      refine lv_goto (tgt := 139) hx hb dX9_partOnce_161 (by decide) ?_
      exact hk139 x1 (x2 + (1 : Int32)) v_firstPair (upd v_kindOf (x2.toNatClampNeg) (v_newKind (x2.toNatClampNeg))) v_newKind v_signs _ _ _ (lv_sub hl [1, 2, 0] rfl) hG h
  have l139 : ∀  (F : Nat) (x1 : Int32) (x2 : Int32) (v_firstPair : Nat → Int32) (v_kindOf : Nat → Int32) (v_newKind : Nat → Int32) (v_signs : Nat → Int32) (H : Heap) (locs : List Loc) (ls : Array Slot), lv_has ls 6 [(0, .ref (g.2.1 50)), (1, .int x1), (2, .int x2)] → GW g s (mkS σ [] [] [(81, v_firstPair), (78, v_kindOf), (79, v_newKind), (80, v_signs)] []) H locs → M_partOnce_l139 F x1 x2 v_firstPair v_kindOf v_newKind v_signs = some (r, w_firstPair, w_kindOf, w_newKind, w_signs) → Wg p l e 1 26 s m args below meth c g (some (.int r)) (mkS σ [] [] [(81, w_firstPair), (78, w_kindOf), (79, w_newKind), (80, w_signs)] []) H locs (F0 m 139 ls []) := by
    intro F
    induction F with
    | zero => intro x1 x2 v_firstPair v_kindOf v_newKind v_signs H locs ls hl hG h; exact no_some h
    | succ F ih => intro x1 x2 v_firstPair v_kindOf v_newKind v_signs H locs ls hl hG h; exact n139 (fun x1 x2 v_firstPair v_kindOf v_newKind v_signs => M_partOnce_l139 F x1 x2 v_firstPair v_kindOf v_newKind v_signs) ih x1 x2 v_firstPair v_kindOf v_newKind v_signs H locs ls hl hG h
  have n137 : ∀ (x1 : Int32) (v_firstPair : Nat → Int32) (v_kindOf : Nat → Int32) (v_newKind : Nat → Int32) (v_signs : Nat → Int32) (H : Heap) (locs : List Loc) (ls : Array Slot), lv_has ls 6 [(0, .ref (g.2.1 50)), (1, .int x1)] → GW g s (mkS σ [] [] [(81, v_firstPair), (78, v_kindOf), (79, v_newKind), (80, v_signs)] []) H locs → M_partOnce_n137 x1 v_firstPair v_kindOf v_newKind v_signs = some (r, w_firstPair, w_kindOf, w_newKind, w_signs) → Wg p l e 1 26 s m args below meth c g (some (.int r)) (mkS σ [] [] [(81, w_firstPair), (78, w_kindOf), (79, w_newKind), (80, w_signs)] []) H locs (F0 m 137 ls []) := by
    intro x1 v_firstPair v_kindOf v_newKind v_signs H locs ls hl hG h
    unfold M_partOnce_n137 at h
    refine lv_iconst (v := (0 : Int32)) hx hb dX9_partOnce_137 (by decide) ?_
    refine lv_istore_n (lv' := [(2, .int (0 : Int32)), (0, .ref (g.2.1 50)), (1, .int x1)]) hx hb dX9_partOnce_138 rfl hl (Nat.le_of_ble_eq_true rfl) rfl (fun ls hl => ?_)
    exact l139 FUEL x1 (0 : Int32) v_firstPair v_kindOf v_newKind v_signs _ _ _ (lv_sub hl [1, 2, 0] rfl) hG h
  have n42 : ∀ (k42 : Int32 → Int32 → (Nat → Int32) → (Nat → Int32) → (Nat → Int32) → (Nat → Int32) → Option (Int32 × (Nat → Int32) × (Nat → Int32) × (Nat → Int32) × (Nat → Int32))) (hk42 : ∀ (x1 : Int32) (x2 : Int32) (v_firstPair : Nat → Int32) (v_kindOf : Nat → Int32) (v_newKind : Nat → Int32) (v_signs : Nat → Int32) (H : Heap) (locs : List Loc) (ls : Array Slot), lv_has ls 6 [(0, .ref (g.2.1 50)), (1, .int x1), (2, .int x2)] → GW g s (mkS σ [] [] [(81, v_firstPair), (78, v_kindOf), (79, v_newKind), (80, v_signs)] []) H locs → k42 x1 x2 v_firstPair v_kindOf v_newKind v_signs = some (r, w_firstPair, w_kindOf, w_newKind, w_signs) → Wg p l e 1 26 s m args below meth c g (some (.int r)) (mkS σ [] [] [(81, w_firstPair), (78, w_kindOf), (79, w_newKind), (80, w_signs)] []) H locs (F0 m 42 ls [])) (x1 : Int32) (x2 : Int32) (v_firstPair : Nat → Int32) (v_kindOf : Nat → Int32) (v_newKind : Nat → Int32) (v_signs : Nat → Int32) (H : Heap) (locs : List Loc) (ls : Array Slot), lv_has ls 6 [(0, .ref (g.2.1 50)), (1, .int x1), (2, .int x2)] → GW g s (mkS σ [] [] [(81, v_firstPair), (78, v_kindOf), (79, v_newKind), (80, v_signs)] []) H locs → M_partOnce_n42 k42 (σ.1 3203) x1 x2 v_firstPair v_kindOf v_newKind v_signs = some (r, w_firstPair, w_kindOf, w_newKind, w_signs) → Wg p l e 1 26 s m args below meth c g (some (.int r)) (mkS σ [] [] [(81, w_firstPair), (78, w_kindOf), (79, w_newKind), (80, w_signs)] []) H locs (F0 m 42 ls []) := by
    intro k42 hk42 x1 x2 v_firstPair v_kindOf v_newKind v_signs H locs ls hl hG h
    unfold M_partOnce_n42 at h
    refine lv_iload_n hx hb dX9_partOnce_42 rfl (lv_at hl 2 rfl) ?_
    refine lv_aload_n hx hb dX9_partOnce_43 rfl (lv_at hl 0 rfl) ?_
    refine gx_get (v := .int (σ.1 3203)) (C := RX9) (T := TX9) (N := 44) hx hb hts mc_X9 hown hK hG (ga_50 g _) rfl 3 (by decide) hw0 rfl rfl dX9_partOnce_44 ?_
    refine lv_icmp_ge (tgt := 137) hx hb dX9_partOnce_47 (by decide) (fun c15 => ?_) (fun c15 => ?_)
    · have h := ite_t c15 h
      exact n137 x1 v_firstPair v_kindOf v_newKind v_signs _ _ _ (lv_sub hl [0, 1] rfl) hG h
    · have h := ite_f c15 h
      refine lv_iconst (v := (0 : Int32)) hx hb dX9_partOnce_50 (by decide) ?_
      refine lv_istore_n (lv' := [(3, .int (0 : Int32)), (0, .ref (g.2.1 50)), (1, .int x1), (2, .int x2)]) hx hb dX9_partOnce_51 rfl hl (Nat.le_of_ble_eq_true rfl) rfl (fun ls hl => ?_)
      exact l52 k42 hk42 FUEL x1 x2 (0 : Int32) v_firstPair v_kindOf v_newKind v_signs _ _ _ (lv_sub hl [1, 2, 3, 0] rfl) hG h
  have l42 : ∀  (F : Nat) (x1 : Int32) (x2 : Int32) (v_firstPair : Nat → Int32) (v_kindOf : Nat → Int32) (v_newKind : Nat → Int32) (v_signs : Nat → Int32) (H : Heap) (locs : List Loc) (ls : Array Slot), lv_has ls 6 [(0, .ref (g.2.1 50)), (1, .int x1), (2, .int x2)] → GW g s (mkS σ [] [] [(81, v_firstPair), (78, v_kindOf), (79, v_newKind), (80, v_signs)] []) H locs → M_partOnce_l42 (σ.1 3203) F x1 x2 v_firstPair v_kindOf v_newKind v_signs = some (r, w_firstPair, w_kindOf, w_newKind, w_signs) → Wg p l e 1 26 s m args below meth c g (some (.int r)) (mkS σ [] [] [(81, w_firstPair), (78, w_kindOf), (79, w_newKind), (80, w_signs)] []) H locs (F0 m 42 ls []) := by
    intro F
    induction F with
    | zero => intro x1 x2 v_firstPair v_kindOf v_newKind v_signs H locs ls hl hG h; exact no_some h
    | succ F ih => intro x1 x2 v_firstPair v_kindOf v_newKind v_signs H locs ls hl hG h; exact n42 (fun x1 x2 v_firstPair v_kindOf v_newKind v_signs => M_partOnce_l42 (σ.1 3203) F x1 x2 v_firstPair v_kindOf v_newKind v_signs) ih x1 x2 v_firstPair v_kindOf v_newKind v_signs H locs ls hl hG h
  have n38 : ∀ (v_firstPair : Nat → Int32) (v_kindOf : Nat → Int32) (v_newKind : Nat → Int32) (v_signs : Nat → Int32) (H : Heap) (locs : List Loc) (ls : Array Slot), lv_has ls 6 [(0, .ref (g.2.1 50))] → GW g s (mkS σ [] [] [(81, v_firstPair), (78, v_kindOf), (79, v_newKind), (80, v_signs)] []) H locs → M_partOnce_n38 (σ.1 3203) v_firstPair v_kindOf v_newKind v_signs = some (r, w_firstPair, w_kindOf, w_newKind, w_signs) → Wg p l e 1 26 s m args below meth c g (some (.int r)) (mkS σ [] [] [(81, w_firstPair), (78, w_kindOf), (79, w_newKind), (80, w_signs)] []) H locs (F0 m 38 ls []) := by
    intro v_firstPair v_kindOf v_newKind v_signs H locs ls hl hG h
    unfold M_partOnce_n38 at h
    refine lv_iconst (v := (0 : Int32)) hx hb dX9_partOnce_38 (by decide) ?_
    refine lv_istore_n (lv' := [(1, .int (0 : Int32)), (0, .ref (g.2.1 50))]) hx hb dX9_partOnce_39 rfl hl (Nat.le_of_ble_eq_true rfl) rfl (fun ls hl => ?_)
    refine lv_iconst (v := (0 : Int32)) hx hb dX9_partOnce_40 (by decide) ?_
    refine lv_istore_n (lv' := [(2, .int (0 : Int32)), (1, .int (0 : Int32)), (0, .ref (g.2.1 50))]) hx hb dX9_partOnce_41 rfl hl (Nat.le_of_ble_eq_true rfl) rfl (fun ls hl => ?_)
    exact l42 FUEL (0 : Int32) (0 : Int32) v_firstPair v_kindOf v_newKind v_signs _ _ _ (lv_sub hl [2, 1, 0] rfl) hG h
  have n2 : ∀ (k2 : Int32 → (Nat → Int32) → (Nat → Int32) → (Nat → Int32) → (Nat → Int32) → Option (Int32 × (Nat → Int32) × (Nat → Int32) × (Nat → Int32) × (Nat → Int32))) (hk2 : ∀ (x1 : Int32) (v_firstPair : Nat → Int32) (v_kindOf : Nat → Int32) (v_newKind : Nat → Int32) (v_signs : Nat → Int32) (H : Heap) (locs : List Loc) (ls : Array Slot), lv_has ls 6 [(0, .ref (g.2.1 50)), (1, .int x1)] → GW g s (mkS σ [] [] [(81, v_firstPair), (78, v_kindOf), (79, v_newKind), (80, v_signs)] []) H locs → k2 x1 v_firstPair v_kindOf v_newKind v_signs = some (r, w_firstPair, w_kindOf, w_newKind, w_signs) → Wg p l e 1 26 s m args below meth c g (some (.int r)) (mkS σ [] [] [(81, w_firstPair), (78, w_kindOf), (79, w_newKind), (80, w_signs)] []) H locs (F0 m 2 ls [])) (x1 : Int32) (v_firstPair : Nat → Int32) (v_kindOf : Nat → Int32) (v_newKind : Nat → Int32) (v_signs : Nat → Int32) (H : Heap) (locs : List Loc) (ls : Array Slot), lv_has ls 6 [(0, .ref (g.2.1 50)), (1, .int x1)] → GW g s (mkS σ [] [] [(81, v_firstPair), (78, v_kindOf), (79, v_newKind), (80, v_signs)] []) H locs → M_partOnce_n2 k2 (σ.1 3203) x1 v_firstPair v_kindOf v_newKind v_signs = some (r, w_firstPair, w_kindOf, w_newKind, w_signs) → Wg p l e 1 26 s m args below meth c g (some (.int r)) (mkS σ [] [] [(81, w_firstPair), (78, w_kindOf), (79, w_newKind), (80, w_signs)] []) H locs (F0 m 2 ls []) := by
    intro k2 hk2 x1 v_firstPair v_kindOf v_newKind v_signs H locs ls hl hG h
    unfold M_partOnce_n2 at h
    refine lv_iload_n hx hb dX9_partOnce_2 rfl (lv_at hl 1 rfl) ?_
    refine lv_aload_n hx hb dX9_partOnce_3 rfl (lv_at hl 0 rfl) ?_
    refine gx_get (v := .int (σ.1 3203)) (C := RX9) (T := TX9) (N := 44) hx hb hts mc_X9 hown hK hG (ga_50 g _) rfl 3 (by decide) hw0 rfl rfl dX9_partOnce_4 ?_
    refine lv_icmp_ge (tgt := 38) hx hb dX9_partOnce_7 (by decide) (fun c16 => ?_) (fun c16 => ?_)
    · have h := ite_t c16 h
      exact n38 v_firstPair v_kindOf v_newKind v_signs _ _ _ (lv_sub hl [0] rfl) hG h
    · have h := ite_f c16 h
      refine lv_iconst (v := (0 : Int32)) hx hb dX9_partOnce_10 (by decide) ?_
      refine lv_istore_n (lv' := [(2, .int (0 : Int32)), (0, .ref (g.2.1 50)), (1, .int x1)]) hx hb dX9_partOnce_11 rfl hl (Nat.le_of_ble_eq_true rfl) rfl (fun ls hl => ?_)
      exact l12 k2 hk2 FUEL x1 (0 : Int32) v_firstPair v_kindOf v_newKind v_signs _ _ _ (lv_sub hl [1, 2, 0] rfl) hG h
  have l2 : ∀  (F : Nat) (x1 : Int32) (v_firstPair : Nat → Int32) (v_kindOf : Nat → Int32) (v_newKind : Nat → Int32) (v_signs : Nat → Int32) (H : Heap) (locs : List Loc) (ls : Array Slot), lv_has ls 6 [(0, .ref (g.2.1 50)), (1, .int x1)] → GW g s (mkS σ [] [] [(81, v_firstPair), (78, v_kindOf), (79, v_newKind), (80, v_signs)] []) H locs → M_partOnce_l2 (σ.1 3203) F x1 v_firstPair v_kindOf v_newKind v_signs = some (r, w_firstPair, w_kindOf, w_newKind, w_signs) → Wg p l e 1 26 s m args below meth c g (some (.int r)) (mkS σ [] [] [(81, w_firstPair), (78, w_kindOf), (79, w_newKind), (80, w_signs)] []) H locs (F0 m 2 ls []) := by
    intro F
    induction F with
    | zero => intro x1 v_firstPair v_kindOf v_newKind v_signs H locs ls hl hG h; exact no_some h
    | succ F ih => intro x1 v_firstPair v_kindOf v_newKind v_signs H locs ls hl hG h; exact n2 (fun x1 v_firstPair v_kindOf v_newKind v_signs => M_partOnce_l2 (σ.1 3203) F x1 v_firstPair v_kindOf v_newKind v_signs) ih x1 v_firstPair v_kindOf v_newKind v_signs H locs ls hl hG h
  refine lv_iconst (v := (0 : Int32)) hx hb dX9_partOnce_0 (by decide) ?_
  refine lv_istore_n (lv' := [(1, .int (0 : Int32)), (0, .ref (g.2.1 50))]) hx hb dX9_partOnce_1 rfl hl (Nat.le_of_ble_eq_true rfl) rfl (fun ls hl => ?_)
  exact l2 FUEL (0 : Int32) (σ.2.2.1 81) (σ.2.2.1 78) (σ.2.2.1 79) (σ.2.2.1 80) _ _ _ (lv_sub hl [1, 0] rfl) hG h

set_option maxHeartbeats 4000000 in
set_option maxRecDepth 100000 in
theorem c_M_findKinds (l : Launch) (g : GC) (σ : St) (w_areKindsFound : Int32) (w_kindMany : Int32) (w_firstPair : Nat → Int32) (w_kindOf : Nat → Int32) (w_newKind : Nat → Int32) (w_signs : Nat → Int32) (h : M_findKinds (σ.1 3238) (σ.1 3242) (σ.1 3203) (σ.2.2.1 81) (σ.2.2.1 78) (σ.2.2.1 79) (σ.2.2.1 54) (σ.2.2.1 80) = some (w_areKindsFound, w_kindMany, w_firstPair, w_kindOf, w_newKind, w_signs)) : Cn l g yX9_findKinds (Cond.code yX9_findKinds cX9_findKinds 2 none :: wG) 2 51 [.ref (g.2.1 50)] σ none (mkS σ [(3238, w_areKindsFound), (3242, w_kindMany)] [] [(81, w_firstPair), (78, w_kindOf), (79, w_newKind), (80, w_signs)] []) := by
  unfold Cn
  refine Met.ofW (cc := cX9_findKinds) (maxL := 2) (ret := none) (by decide) rfl ?_
  intro p e s m args below meth c s₁ B hml hv
  obtain ⟨hargs, hP0, hK⟩ := hv
  have hx := B.exec
  have hb := B.bytes
  have hr := B.returns
  have hts : ∀ w ∈ wG, w.before args s = true := fun w h => atoms_spec (ws := (Cond.code yX9_findKinds cX9_findKinds 2 none :: wG)) B.pre w (List.mem_cons_of_mem _ h)
  have hown : s.vm.findClass RX9 = some m.cls := findClass_of_methodNamed B.named
  have hlocks := B.notSynchronized
  have hS9 : CallFix p m c cX9_findKinds 2 s args wG RX9 := ⟨hx, hb, hml, hown, hts⟩
  have hw0 := hts _ mw_4_181
  have hw1 := hts _ mw_4_178
  have hw2 := hts _ mw_4_143
  have hw3 := hts _ mw_4_177
  have hf9 : entryFrame m args 2 = _ := (congrArg (fun a => entryFrame m a 2) hargs).trans (lg_entry_eq m [.ref (g.2.1 50)] 2)
  show Wg p l e 2 51 s m args below meth c g none (mkS σ [(3238, w_areKindsFound), (3242, w_kindMany)] [] [(81, w_firstPair), (78, w_kindOf), (79, w_newKind), (80, w_signs)] []) s.heap [] (entryFrame m args 2)
  rw [hf9]
  have hl := lv_entry ([.ref (g.2.1 50)]) (n := 2) (Nat.le_of_ble_eq_true rfl)
  generalize (lg_sl ([.ref (g.2.1 50)]) ++ List.replicate (2 - (lg_sl ([.ref (g.2.1 50)])).length) Slot.unset).toArray = ls at hl ⊢
  have hl : lv_has ls 2 [(0, .ref (g.2.1 50))] := hl
  have hG : GW g s σ s.heap [] := ⟨hP0, va_S.rf⟩
  have hG : GW g s (mkS σ [(3238, (σ.1 3238)), (3242, (σ.1 3242))] [] [(81, (σ.2.2.1 81)), (78, (σ.2.2.1 78)), (79, (σ.2.2.1 79)), (80, (σ.2.2.1 80))] []) s.heap [] := GW_self [3238, 3242] [] [81, 78, 79, 80] [] hG
  unfold M_findKinds at h
  have n56 : ∀ (k15 : Int32 → Int32 → Int32 → (Nat → Int32) → (Nat → Int32) → (Nat → Int32) → (Nat → Int32) → Option (Int32 × Int32 × (Nat → Int32) × (Nat → Int32) × (Nat → Int32) × (Nat → Int32))) (hk15 : ∀ (x1 : Int32) (v_areKindsFound : Int32) (v_kindMany : Int32) (v_firstPair : Nat → Int32) (v_kindOf : Nat → Int32) (v_newKind : Nat → Int32) (v_signs : Nat → Int32) (H : Heap) (locs : List Loc) (ls : Array Slot), lv_has ls 2 [(0, .ref (g.2.1 50)), (1, .int x1)] → GW g s (mkS σ [(3238, v_areKindsFound), (3242, v_kindMany)] [] [(81, v_firstPair), (78, v_kindOf), (79, v_newKind), (80, v_signs)] []) H locs → k15 x1 v_areKindsFound v_kindMany v_firstPair v_kindOf v_newKind v_signs = some (w_areKindsFound, w_kindMany, w_firstPair, w_kindOf, w_newKind, w_signs) → Wg p l e 2 51 s m args below meth c g none (mkS σ [(3238, w_areKindsFound), (3242, w_kindMany)] [] [(81, w_firstPair), (78, w_kindOf), (79, w_newKind), (80, w_signs)] []) H locs (F0 m 15 ls [])) (x1 : Int32) (t1 : Int32) (t2 : Int32) (v_areKindsFound : Int32) (v_kindMany : Int32) (v_firstPair : Nat → Int32) (v_kindOf : Nat → Int32) (v_newKind : Nat → Int32) (v_signs : Nat → Int32) (H : Heap) (locs : List Loc) (ls : Array Slot), lv_has ls 2 [(0, .ref (g.2.1 50)), (1, .int x1)] → GW g s (mkS σ [(3238, v_areKindsFound), (3242, v_kindMany)] [] [(81, v_firstPair), (78, v_kindOf), (79, v_newKind), (80, v_signs)] []) H locs → M_findKinds_n56 k15 x1 t1 t2 v_areKindsFound v_kindMany v_firstPair v_kindOf v_newKind v_signs = some (w_areKindsFound, w_kindMany, w_firstPair, w_kindOf, w_newKind, w_signs) → Wg p l e 2 51 s m args below meth c g none (mkS σ [(3238, w_areKindsFound), (3242, w_kindMany)] [] [(81, w_firstPair), (78, w_kindOf), (79, w_newKind), (80, w_signs)] []) H locs (F0 m 56 ls [.int t2, .int t1, .ref (g.2.1 78)]) := by
    intro k15 hk15 x1 t1 t2 v_areKindsFound v_kindMany v_firstPair v_kindOf v_newKind v_signs H locs ls hl hG h
    unfold M_findKinds_n56 at h
    obtain ⟨hg1, h⟩ := gd_some h
    refine gx_iast (σ' := (mkS σ [(3238, v_areKindsFound), (3242, v_kindMany)] [] [(81, v_firstPair), (78, (upd v_kindOf (t1.toNatClampNeg) t2)), (79, v_newKind), (80, v_signs)] [])) (f := v_kindOf) hx hb hK hG (ga_78 g _) hg1 ((gs_78 g _ _).trans (congrArg (g_cells g) (mk_c 1 rfl rfl))) dX9_findKinds_56 (fun H locs hG => ?_)
    refine lv_iinc (v := (x1 + (1 : Int32))) (lv' := [(1, .int (x1 + (1 : Int32))), (0, .ref (g.2.1 50))]) hx hb dX9_findKinds_57 hl (k := 1) rfl (congrArg (fun z => x1 + z) (by decide)) (Nat.le_of_ble_eq_true rfl) rfl (fun ls hl => ?_)
    refine lv_goto (tgt := 15) hx hb dX9_findKinds_60 (by decide) ?_
    exact hk15 (x1 + (1 : Int32)) v_areKindsFound v_kindMany v_firstPair (upd v_kindOf (t1.toNatClampNeg) t2) v_newKind v_signs _ _ _ (lv_sub hl [1, 0] rfl) hG h
  have n91 : ∀ (v_areKindsFound : Int32) (v_kindMany : Int32) (v_firstPair : Nat → Int32) (v_kindOf : Nat → Int32) (v_newKind : Nat → Int32) (v_signs : Nat → Int32) (H : Heap) (locs : List Loc) (ls : Array Slot), lv_has ls 2 [] → GW g s (mkS σ [(3238, v_areKindsFound), (3242, v_kindMany)] [] [(81, v_firstPair), (78, v_kindOf), (79, v_newKind), (80, v_signs)] []) H locs → M_findKinds_n91 v_areKindsFound v_kindMany v_firstPair v_kindOf v_newKind v_signs = some (w_areKindsFound, w_kindMany, w_firstPair, w_kindOf, w_newKind, w_signs) → Wg p l e 2 51 s m args below meth c g none (mkS σ [(3238, w_areKindsFound), (3242, w_kindMany)] [] [(81, w_firstPair), (78, w_kindOf), (79, w_newKind), (80, w_signs)] []) H locs (F0 m 91 ls []) := by
    intro v_areKindsFound v_kindMany v_firstPair v_kindOf v_newKind v_signs H locs ls hl hG h
    unfold M_findKinds_n91 at h
    cases h
    exact gx_vret hx hb hr hlocks hG dX9_findKinds_91
  have n70 : ∀ (k70 : Int32 → Int32 → Int32 → (Nat → Int32) → (Nat → Int32) → (Nat → Int32) → (Nat → Int32) → Option (Int32 × Int32 × (Nat → Int32) × (Nat → Int32) × (Nat → Int32) × (Nat → Int32))) (hk70 : ∀ (x1 : Int32) (v_areKindsFound : Int32) (v_kindMany : Int32) (v_firstPair : Nat → Int32) (v_kindOf : Nat → Int32) (v_newKind : Nat → Int32) (v_signs : Nat → Int32) (H : Heap) (locs : List Loc) (ls : Array Slot), lv_has ls 2 [(0, .ref (g.2.1 50)), (1, .int x1)] → GW g s (mkS σ [(3238, v_areKindsFound), (3242, v_kindMany)] [] [(81, v_firstPair), (78, v_kindOf), (79, v_newKind), (80, v_signs)] []) H locs → k70 x1 v_areKindsFound v_kindMany v_firstPair v_kindOf v_newKind v_signs = some (w_areKindsFound, w_kindMany, w_firstPair, w_kindOf, w_newKind, w_signs) → Wg p l e 2 51 s m args below meth c g none (mkS σ [(3238, w_areKindsFound), (3242, w_kindMany)] [] [(81, w_firstPair), (78, w_kindOf), (79, w_newKind), (80, w_signs)] []) H locs (F0 m 70 ls [])) (x1 : Int32) (v_areKindsFound : Int32) (v_kindMany : Int32) (v_firstPair : Nat → Int32) (v_kindOf : Nat → Int32) (v_newKind : Nat → Int32) (v_signs : Nat → Int32) (H : Heap) (locs : List Loc) (ls : Array Slot), lv_has ls 2 [(0, .ref (g.2.1 50)), (1, .int x1)] → GW g s (mkS σ [(3238, v_areKindsFound), (3242, v_kindMany)] [] [(81, v_firstPair), (78, v_kindOf), (79, v_newKind), (80, v_signs)] []) H locs → M_findKinds_n70 k70 (σ.1 3203) x1 v_areKindsFound v_kindMany v_firstPair v_kindOf v_newKind v_signs = some (w_areKindsFound, w_kindMany, w_firstPair, w_kindOf, w_newKind, w_signs) → Wg p l e 2 51 s m args below meth c g none (mkS σ [(3238, w_areKindsFound), (3242, w_kindMany)] [] [(81, w_firstPair), (78, w_kindOf), (79, w_newKind), (80, w_signs)] []) H locs (F0 m 70 ls []) := by
    intro k70 hk70 x1 v_areKindsFound v_kindMany v_firstPair v_kindOf v_newKind v_signs H locs ls hl hG h
    unfold M_findKinds_n70 at h
    refine lv_iload_n hx hb dX9_findKinds_70 rfl (lv_at hl 1 rfl) ?_
    refine lv_aload_n hx hb dX9_findKinds_71 rfl (lv_at hl 0 rfl) ?_
    refine gx_get (v := .int v_kindMany) (C := RX9) (T := TX9) (N := 44) hx hb hts mc_X9 hown hK hG (ga_50 g _) rfl 42 (by decide) hw0 rfl rfl dX9_findKinds_72 ?_
    refine lv_icmp_eq (tgt := 91) hx hb dX9_findKinds_75 (by decide) (fun c2 => ?_) (fun c2 => ?_)
    · have h := ite_t c2 h
      exact n91 v_areKindsFound v_kindMany v_firstPair v_kindOf v_newKind v_signs _ _ _ (lv_sub hl [] rfl) hG h
    · have h := ite_f c2 h
      refine lv_aload_n hx hb dX9_findKinds_78 rfl (lv_at hl 0 rfl) ?_
      refine lv_iload_n hx hb dX9_findKinds_79 rfl (lv_at hl 1 rfl) ?_
      refine gx_put (σ' := (mkS σ [(3238, v_areKindsFound), (3242, x1)] [] [(81, v_firstPair), (78, v_kindOf), (79, v_newKind), (80, v_signs)] [])) (C := RX9) (T := TX9) (N := 44) hx hb hts mc_X9 tyX9 tyX9_ok nmX9 hown hK hG (ga_50 g _) rfl 42 (by decide) hw0 rfl rfl rfl rfl (Nat.le_of_ble_eq_true rfl) ((gf_3242 g _ _).trans (congrArg (g_cells g) (mk_a 1 rfl rfl))) dX9_findKinds_80 (fun H locs hG => ?_)
      refine lv_aload_n hx hb dX9_findKinds_83 rfl (lv_at hl 0 rfl) ?_
      obtain ⟨z3, hc4, h⟩ := bnd_some h
      refine gx_cV (σ' := (mkS σ [(3238, v_areKindsFound), (3242, x1)] [] [(81, z3.2.1), (78, z3.2.2.1), (79, z3.2.2.2.1), (80, z3.2.2.2.2)] [])) (r := (some (.int z3.1))) (rest := []) (As := []) hS9 (c_M_partOnce l g (mkS σ [(3238, v_areKindsFound), (3242, x1)] [] [(81, v_firstPair), (78, v_kindOf), (79, v_newKind), (80, v_signs)] []) z3.1 z3.2.1 z3.2.2.1 z3.2.2.2.1 z3.2.2.2.2 hc4) (mk_mk rfl rfl rfl rfl) (cwV 0 hts (gz_V mw_6_102 mw_6_104 ms_5_6 mw_1_11 mw_6_105) rfl rfl rfl hdV_X9_partOnce ⟨Nat.le_of_ble_eq_true rfl, Nat.le_of_ble_eq_true rfl⟩) hK hG (ga_50 g _) rfl rfl rfl hl.1 rfl (Nat.le_of_ble_eq_true rfl) dX9_findKinds_84 (fun H locs hG => ?_)
      refine W.eq (g2 := F0 m 87 ls [.int z3.1]) rfl ?_
      refine lv_istore_n (lv' := [(1, .int z3.1), (0, .ref (g.2.1 50))]) hx hb dX9_findKinds_87 rfl hl (Nat.le_of_ble_eq_true rfl) rfl (fun ls hl => ?_)
      refine lv_goto (tgt := 70) hx hb dX9_findKinds_88 (by decide) ?_
      exact hk70 z3.1 v_areKindsFound x1 z3.2.1 z3.2.2.1 z3.2.2.2.1 z3.2.2.2.2 _ _ _ (lv_sub hl [1, 0] rfl) hG h
  have l70 : ∀  (F : Nat) (x1 : Int32) (v_areKindsFound : Int32) (v_kindMany : Int32) (v_firstPair : Nat → Int32) (v_kindOf : Nat → Int32) (v_newKind : Nat → Int32) (v_signs : Nat → Int32) (H : Heap) (locs : List Loc) (ls : Array Slot), lv_has ls 2 [(0, .ref (g.2.1 50)), (1, .int x1)] → GW g s (mkS σ [(3238, v_areKindsFound), (3242, v_kindMany)] [] [(81, v_firstPair), (78, v_kindOf), (79, v_newKind), (80, v_signs)] []) H locs → M_findKinds_l70 (σ.1 3203) F x1 v_areKindsFound v_kindMany v_firstPair v_kindOf v_newKind v_signs = some (w_areKindsFound, w_kindMany, w_firstPair, w_kindOf, w_newKind, w_signs) → Wg p l e 2 51 s m args below meth c g none (mkS σ [(3238, w_areKindsFound), (3242, w_kindMany)] [] [(81, w_firstPair), (78, w_kindOf), (79, w_newKind), (80, w_signs)] []) H locs (F0 m 70 ls []) := by
    intro F
    induction F with
    | zero => intro x1 v_areKindsFound v_kindMany v_firstPair v_kindOf v_newKind v_signs H locs ls hl hG h; exact no_some h
    | succ F ih => intro x1 v_areKindsFound v_kindMany v_firstPair v_kindOf v_newKind v_signs H locs ls hl hG h; exact n70 (fun x1 v_areKindsFound v_kindMany v_firstPair v_kindOf v_newKind v_signs => M_findKinds_l70 (σ.1 3203) F x1 v_areKindsFound v_kindMany v_firstPair v_kindOf v_newKind v_signs) ih x1 v_areKindsFound v_kindMany v_firstPair v_kindOf v_newKind v_signs H locs ls hl hG h
  have n63 : ∀ (v_areKindsFound : Int32) (v_kindMany : Int32) (v_firstPair : Nat → Int32) (v_kindOf : Nat → Int32) (v_newKind : Nat → Int32) (v_signs : Nat → Int32) (H : Heap) (locs : List Loc) (ls : Array Slot), lv_has ls 2 [(0, .ref (g.2.1 50))] → GW g s (mkS σ [(3238, v_areKindsFound), (3242, v_kindMany)] [] [(81, v_firstPair), (78, v_kindOf), (79, v_newKind), (80, v_signs)] []) H locs → M_findKinds_n63 (σ.1 3203) v_areKindsFound v_kindMany v_firstPair v_kindOf v_newKind v_signs = some (w_areKindsFound, w_kindMany, w_firstPair, w_kindOf, w_newKind, w_signs) → Wg p l e 2 51 s m args below meth c g none (mkS σ [(3238, w_areKindsFound), (3242, w_kindMany)] [] [(81, w_firstPair), (78, w_kindOf), (79, w_newKind), (80, w_signs)] []) H locs (F0 m 63 ls []) := by
    intro v_areKindsFound v_kindMany v_firstPair v_kindOf v_newKind v_signs H locs ls hl hG h
    unfold M_findKinds_n63 at h
    refine lv_aload_n hx hb dX9_findKinds_63 rfl (lv_at hl 0 rfl) ?_
    refine lv_iconst (v := (-1 : Int32)) hx hb dX9_findKinds_64 (by decide) ?_
    refine gx_put (σ' := (mkS σ [(3238, v_areKindsFound), (3242, (-1 : Int32))] [] [(81, v_firstPair), (78, v_kindOf), (79, v_newKind), (80, v_signs)] [])) (C := RX9) (T := TX9) (N := 44) hx hb hts mc_X9 tyX9 tyX9_ok nmX9 hown hK hG (ga_50 g _) rfl 42 (by decide) hw0 rfl rfl rfl rfl (Nat.le_of_ble_eq_true rfl) ((gf_3242 g _ _).trans (congrArg (g_cells g) (mk_a 1 rfl rfl))) dX9_findKinds_65 (fun H locs hG => ?_)
    refine lv_iconst (v := (0 : Int32)) hx hb dX9_findKinds_68 (by decide) ?_
    refine lv_istore_n (lv' := [(1, .int (0 : Int32)), (0, .ref (g.2.1 50))]) hx hb dX9_findKinds_69 rfl hl (Nat.le_of_ble_eq_true rfl) rfl (fun ls hl => ?_)
    exact l70 FUEL (0 : Int32) v_areKindsFound (-1 : Int32) v_firstPair v_kindOf v_newKind v_signs _ _ _ (lv_sub hl [1, 0] rfl) hG h
  have n15 : ∀ (k15 : Int32 → Int32 → Int32 → (Nat → Int32) → (Nat → Int32) → (Nat → Int32) → (Nat → Int32) → Option (Int32 × Int32 × (Nat → Int32) × (Nat → Int32) × (Nat → Int32) × (Nat → Int32))) (hk15 : ∀ (x1 : Int32) (v_areKindsFound : Int32) (v_kindMany : Int32) (v_firstPair : Nat → Int32) (v_kindOf : Nat → Int32) (v_newKind : Nat → Int32) (v_signs : Nat → Int32) (H : Heap) (locs : List Loc) (ls : Array Slot), lv_has ls 2 [(0, .ref (g.2.1 50)), (1, .int x1)] → GW g s (mkS σ [(3238, v_areKindsFound), (3242, v_kindMany)] [] [(81, v_firstPair), (78, v_kindOf), (79, v_newKind), (80, v_signs)] []) H locs → k15 x1 v_areKindsFound v_kindMany v_firstPair v_kindOf v_newKind v_signs = some (w_areKindsFound, w_kindMany, w_firstPair, w_kindOf, w_newKind, w_signs) → Wg p l e 2 51 s m args below meth c g none (mkS σ [(3238, w_areKindsFound), (3242, w_kindMany)] [] [(81, w_firstPair), (78, w_kindOf), (79, w_newKind), (80, w_signs)] []) H locs (F0 m 15 ls [])) (x1 : Int32) (v_areKindsFound : Int32) (v_kindMany : Int32) (v_firstPair : Nat → Int32) (v_kindOf : Nat → Int32) (v_newKind : Nat → Int32) (v_signs : Nat → Int32) (H : Heap) (locs : List Loc) (ls : Array Slot), lv_has ls 2 [(0, .ref (g.2.1 50)), (1, .int x1)] → GW g s (mkS σ [(3238, v_areKindsFound), (3242, v_kindMany)] [] [(81, v_firstPair), (78, v_kindOf), (79, v_newKind), (80, v_signs)] []) H locs → M_findKinds_n15 k15 (σ.1 3203) (σ.2.2.1 54) x1 v_areKindsFound v_kindMany v_firstPair v_kindOf v_newKind v_signs = some (w_areKindsFound, w_kindMany, w_firstPair, w_kindOf, w_newKind, w_signs) → Wg p l e 2 51 s m args below meth c g none (mkS σ [(3238, w_areKindsFound), (3242, w_kindMany)] [] [(81, w_firstPair), (78, w_kindOf), (79, w_newKind), (80, w_signs)] []) H locs (F0 m 15 ls []) := by
    intro k15 hk15 x1 v_areKindsFound v_kindMany v_firstPair v_kindOf v_newKind v_signs H locs ls hl hG h
    unfold M_findKinds_n15 at h
    refine lv_iload_n hx hb dX9_findKinds_15 rfl (lv_at hl 1 rfl) ?_
    refine lv_sipush (v := (1024 : Int32)) hx hb dX9_findKinds_16 (by decide) ?_
    refine lv_icmp_ge (tgt := 63) hx hb dX9_findKinds_19 (by decide) (fun c5 => ?_) (fun c5 => ?_)
    · have h := ite_t c5 h
      exact n63 v_areKindsFound v_kindMany v_firstPair v_kindOf v_newKind v_signs _ _ _ (lv_sub hl [0] rfl) hG h
    · have h := ite_f c5 h
      refine lv_aload_n hx hb dX9_findKinds_22 rfl (lv_at hl 0 rfl) ?_
      refine gx_get (v := .ref (g.2.1 78)) (C := RX9) (T := TX9) (N := 44) hx hb hts mc_X9 hown hK hG (ga_50 g _) rfl 39 (by decide) hw1 rfl rfl dX9_findKinds_23 ?_
      refine lv_iload_n hx hb dX9_findKinds_26 rfl (lv_at hl 1 rfl) ?_
      refine lv_iload_n hx hb dX9_findKinds_27 rfl (lv_at hl 1 rfl) ?_
      refine lv_bipush (v := (32 : Int32)) hx hb dX9_findKinds_28 (by decide) ?_
      refine lv_idiv hx hb dX9_findKinds_30 (by decide) ?_
      refine lv_iload_n hx hb dX9_findKinds_31 rfl (lv_at hl 1 rfl) ?_
      refine lv_bipush (v := (32 : Int32)) hx hb dX9_findKinds_32 (by decide) ?_
      refine lv_irem hx hb dX9_findKinds_34 (by decide) ?_
      refine lv_icmp_ne (tgt := 42) hx hb dX9_findKinds_35 (by decide) (fun c6 => ?_) (fun c6 => ?_)
      · have h := ite_f c6 h
        refine lv_aload_n hx hb dX9_findKinds_42 rfl (lv_at hl 0 rfl) ?_
        refine gx_get (v := .ref (g.2.1 54)) (C := RX9) (T := TX9) (N := 44) hx hb hts mc_X9 hown hK hG (ga_50 g _) rfl 4 (by decide) hw2 rfl rfl dX9_findKinds_43 ?_
        refine lv_iload_n hx hb dX9_findKinds_46 rfl (lv_at hl 1 rfl) ?_
        obtain ⟨hg7, h⟩ := gd_some h
        refine gx_zald (f := (σ.2.2.1 54)) hx hb hK hG (ga_54 g _) hg7 dX9_findKinds_47 ?_
        refine lv_if_eq (tgt := 55) hx hb dX9_findKinds_48 (by decide) (fun c8 => ?_) (fun c8 => ?_)
        · have h := ite_t c8 h
          refine lv_iconst (v := (2 : Int32)) hx hb dX9_findKinds_55 (by decide) ?_
          exact n56 k15 hk15 x1 x1 (2 : Int32) v_areKindsFound v_kindMany v_firstPair v_kindOf v_newKind v_signs _ _ _ (lv_sub hl [0, 1] rfl) hG h
        · have h := ite_f c8 h
          refine lv_iconst (v := (1 : Int32)) hx hb dX9_findKinds_51 (by decide) ?_
          refine lv_goto (tgt := 56) hx hb dX9_findKinds_52 (by decide) ?_
          exact n56 k15 hk15 x1 x1 (1 : Int32) v_areKindsFound v_kindMany v_firstPair v_kindOf v_newKind v_signs _ _ _ (lv_sub hl [0, 1] rfl) hG h
      · have h := ite_t c6 h
        refine lv_iconst (v := (0 : Int32)) hx hb dX9_findKinds_38 (by decide) ?_
        refine lv_goto (tgt := 56) hx hb dX9_findKinds_39 (by decide) ?_
        exact n56 k15 hk15 x1 x1 (0 : Int32) v_areKindsFound v_kindMany v_firstPair v_kindOf v_newKind v_signs _ _ _ (lv_sub hl [0, 1] rfl) hG h
  have l15 : ∀  (F : Nat) (x1 : Int32) (v_areKindsFound : Int32) (v_kindMany : Int32) (v_firstPair : Nat → Int32) (v_kindOf : Nat → Int32) (v_newKind : Nat → Int32) (v_signs : Nat → Int32) (H : Heap) (locs : List Loc) (ls : Array Slot), lv_has ls 2 [(0, .ref (g.2.1 50)), (1, .int x1)] → GW g s (mkS σ [(3238, v_areKindsFound), (3242, v_kindMany)] [] [(81, v_firstPair), (78, v_kindOf), (79, v_newKind), (80, v_signs)] []) H locs → M_findKinds_l15 (σ.1 3203) (σ.2.2.1 54) F x1 v_areKindsFound v_kindMany v_firstPair v_kindOf v_newKind v_signs = some (w_areKindsFound, w_kindMany, w_firstPair, w_kindOf, w_newKind, w_signs) → Wg p l e 2 51 s m args below meth c g none (mkS σ [(3238, w_areKindsFound), (3242, w_kindMany)] [] [(81, w_firstPair), (78, w_kindOf), (79, w_newKind), (80, w_signs)] []) H locs (F0 m 15 ls []) := by
    intro F
    induction F with
    | zero => intro x1 v_areKindsFound v_kindMany v_firstPair v_kindOf v_newKind v_signs H locs ls hl hG h; exact no_some h
    | succ F ih => intro x1 v_areKindsFound v_kindMany v_firstPair v_kindOf v_newKind v_signs H locs ls hl hG h; exact n15 (fun x1 v_areKindsFound v_kindMany v_firstPair v_kindOf v_newKind v_signs => M_findKinds_l15 (σ.1 3203) (σ.2.2.1 54) F x1 v_areKindsFound v_kindMany v_firstPair v_kindOf v_newKind v_signs) ih x1 v_areKindsFound v_kindMany v_firstPair v_kindOf v_newKind v_signs H locs ls hl hG h
  refine lv_aload_n hx hb dX9_findKinds_0 rfl (lv_at hl 0 rfl) ?_
  refine gx_get (v := .int (σ.1 3238)) (C := RX9) (T := TX9) (N := 44) hx hb hts mc_X9 hown hK hG (ga_50 g _) rfl 38 (by decide) hw3 rfl rfl dX9_findKinds_1 ?_
  refine lv_if_eq (tgt := 8) hx hb dX9_findKinds_4 (by decide) (fun c9 => ?_) (fun c9 => ?_)
  · have h := ite_t c9 h
    refine lv_aload_n hx hb dX9_findKinds_8 rfl (lv_at hl 0 rfl) ?_
    refine lv_iconst (v := (1 : Int32)) hx hb dX9_findKinds_9 (by decide) ?_
    refine gx_put (σ' := (mkS σ [(3238, (1 : Int32)), (3242, (σ.1 3242))] [] [(81, (σ.2.2.1 81)), (78, (σ.2.2.1 78)), (79, (σ.2.2.1 79)), (80, (σ.2.2.1 80))] [])) (C := RX9) (T := TX9) (N := 44) hx hb hts mc_X9 tyX9 tyX9_ok nmX9 hown hK hG (ga_50 g _) rfl 38 (by decide) hw3 rfl rfl (isb_n (by decide)) (isb_f (by decide)) (Nat.le_of_ble_eq_true rfl) ((gf_3238 g _ _).trans (congrArg (g_cells g) (mk_a 0 rfl rfl))) dX9_findKinds_10 (fun H locs hG => ?_)
    refine lv_iconst (v := (0 : Int32)) hx hb dX9_findKinds_13 (by decide) ?_
    refine lv_istore_n (lv' := [(1, .int (0 : Int32)), (0, .ref (g.2.1 50))]) hx hb dX9_findKinds_14 rfl hl (Nat.le_of_ble_eq_true rfl) rfl (fun ls hl => ?_)
    exact l15 FUEL (0 : Int32) (1 : Int32) (σ.1 3242) (σ.2.2.1 81) (σ.2.2.1 78) (σ.2.2.1 79) (σ.2.2.1 80) _ _ _ (lv_sub hl [1, 0] rfl) hG h
  · have h := ite_f c9 h
    cases h
    exact gx_vret hx hb hr hlocks hG dX9_findKinds_7

set_option maxHeartbeats 4000000 in
set_option maxRecDepth 100000 in
theorem c_M_kind (l : Launch) (g : GC) (σ : St) (x1 : Int32) (x2 : Int32) (r : Int32) (w_areKindsFound : Int32) (w_kindMany : Int32) (w_firstPair : Nat → Int32) (w_kindOf : Nat → Int32) (w_newKind : Nat → Int32) (w_signs : Nat → Int32) (h : M_kind x1 x2 (σ.1 3238) (σ.1 3242) (σ.1 3203) (σ.2.2.1 81) (σ.2.2.1 78) (σ.2.2.1 79) (σ.2.2.1 54) (σ.2.2.1 80) = some (r, w_areKindsFound, w_kindMany, w_firstPair, w_kindOf, w_newKind, w_signs)) : Cn l g yX9_kind (Cond.code yX9_kind cX9_kind 3 (some .int) :: wG) 3 72 [.ref (g.2.1 50), .int x1, .int x2] σ (some (.int r)) (mkS σ [(3238, w_areKindsFound), (3242, w_kindMany)] [] [(81, w_firstPair), (78, w_kindOf), (79, w_newKind), (80, w_signs)] []) := by
  unfold Cn
  refine Met.ofW (cc := cX9_kind) (maxL := 3) (ret := (some .int)) (by decide) rfl ?_
  intro p e s m args below meth c s₁ B hml hv
  obtain ⟨hargs, hP0, hK⟩ := hv
  have hx := B.exec
  have hb := B.bytes
  have hr := B.returns
  have hts : ∀ w ∈ wG, w.before args s = true := fun w h => atoms_spec (ws := (Cond.code yX9_kind cX9_kind 3 (some .int) :: wG)) B.pre w (List.mem_cons_of_mem _ h)
  have hown : s.vm.findClass RX9 = some m.cls := findClass_of_methodNamed B.named
  have hlocks := B.notSynchronized
  have hS9 : CallFix p m c cX9_kind 3 s args wG RX9 := ⟨hx, hb, hml, hown, hts⟩
  have hw0 := hts _ mw_4_178
  have hf9 : entryFrame m args 3 = _ := (congrArg (fun a => entryFrame m a 3) hargs).trans (lg_entry_eq m [.ref (g.2.1 50), .int x1, .int x2] 3)
  show Wg p l e 3 72 s m args below meth c g (some (.int r)) (mkS σ [(3238, w_areKindsFound), (3242, w_kindMany)] [] [(81, w_firstPair), (78, w_kindOf), (79, w_newKind), (80, w_signs)] []) s.heap [] (entryFrame m args 3)
  rw [hf9]
  have hl := lv_entry ([.ref (g.2.1 50), .int x1, .int x2]) (n := 3) (Nat.le_of_ble_eq_true rfl)
  generalize (lg_sl ([.ref (g.2.1 50), .int x1, .int x2]) ++ List.replicate (3 - (lg_sl ([.ref (g.2.1 50), .int x1, .int x2])).length) Slot.unset).toArray = ls at hl ⊢
  have hl : lv_has ls 3 [(0, .ref (g.2.1 50)), (1, .int x1), (2, .int x2)] := hl
  have hG : GW g s σ s.heap [] := ⟨hP0, va_S.rf⟩
  have hG : GW g s (mkS σ [(3238, (σ.1 3238)), (3242, (σ.1 3242))] [] [(81, (σ.2.2.1 81)), (78, (σ.2.2.1 78)), (79, (σ.2.2.1 79)), (80, (σ.2.2.1 80))] []) s.heap [] := GW_self [3238, 3242] [] [81, 78, 79, 80] [] hG
  unfold M_kind at h
  have n16 : ∀ (v_areKindsFound : Int32) (v_kindMany : Int32) (v_firstPair : Nat → Int32) (v_kindOf : Nat → Int32) (v_newKind : Nat → Int32) (v_signs : Nat → Int32) (H : Heap) (locs : List Loc) (ls : Array Slot), lv_has ls 3 [] → GW g s (mkS σ [(3238, v_areKindsFound), (3242, v_kindMany)] [] [(81, v_firstPair), (78, v_kindOf), (79, v_newKind), (80, v_signs)] []) H locs → M_kind_n16 v_areKindsFound v_kindMany v_firstPair v_kindOf v_newKind v_signs = some (r, w_areKindsFound, w_kindMany, w_firstPair, w_kindOf, w_newKind, w_signs) → Wg p l e 3 72 s m args below meth c g (some (.int r)) (mkS σ [(3238, w_areKindsFound), (3242, w_kindMany)] [] [(81, w_firstPair), (78, w_kindOf), (79, w_newKind), (80, w_signs)] []) H locs (F0 m 16 ls []) := by
    intro v_areKindsFound v_kindMany v_firstPair v_kindOf v_newKind v_signs H locs ls hl hG h
    unfold M_kind_n16 at h
    refine lv_iconst (v := (-1 : Int32)) hx hb dX9_kind_16 (by decide) ?_
    cases h
    exact gx_iret hx hb hr hlocks hG dX9_kind_17
  refine lv_aload_n hx hb dX9_kind_0 rfl (lv_at hl 0 rfl) ?_
  refine lv_iload_n hx hb dX9_kind_1 rfl (lv_at hl 1 rfl) ?_
  obtain ⟨z1, hc2, h⟩ := bnd_some h
  refine gx_cV (σ' := (mkS σ [(3238, (σ.1 3238)), (3242, (σ.1 3242))] [] [(81, (σ.2.2.1 81)), (78, (σ.2.2.1 78)), (79, (σ.2.2.1 79)), (80, (σ.2.2.1 80))] [])) (r := (some (.int z1))) (rest := []) (As := [.int x1]) hS9 (c_M_isPost l g (mkS σ [(3238, (σ.1 3238)), (3242, (σ.1 3242))] [] [(81, (σ.2.2.1 81)), (78, (σ.2.2.1 78)), (79, (σ.2.2.1 79)), (80, (σ.2.2.1 80))] []) x1 z1 hc2) rfl (cwV 1 hts (gz_V mw_5_66 mw_5_68 ms_3_5 mw_1_11 mw_5_69) rfl rfl rfl hdV_X9_isPost ⟨Nat.le_of_ble_eq_true rfl, Nat.le_of_ble_eq_true rfl⟩) hK hG (ga_50 g _) rfl rfl rfl hl.1 rfl (Nat.le_of_ble_eq_true rfl) dX9_kind_2 (fun H locs hG => ?_)
  refine W.eq (g2 := F0 m 5 ls [.int z1]) rfl ?_
  refine lv_if_eq (tgt := 16) hx hb dX9_kind_5 (by decide) (fun c3 => ?_) (fun c3 => ?_)
  · have h := ite_t c3 h
    exact n16 (σ.1 3238) (σ.1 3242) (σ.2.2.1 81) (σ.2.2.1 78) (σ.2.2.1 79) (σ.2.2.1 80) _ _ _ (lv_sub hl [] rfl) hG h
  · have h := ite_f c3 h
    refine lv_aload_n hx hb dX9_kind_8 rfl (lv_at hl 0 rfl) ?_
    refine lv_iload_n hx hb dX9_kind_9 rfl (lv_at hl 2 rfl) ?_
    obtain ⟨z4, hc5, h⟩ := bnd_some h
    refine gx_cV (σ' := (mkS σ [(3238, (σ.1 3238)), (3242, (σ.1 3242))] [] [(81, (σ.2.2.1 81)), (78, (σ.2.2.1 78)), (79, (σ.2.2.1 79)), (80, (σ.2.2.1 80))] [])) (r := (some (.int z4))) (rest := []) (As := [.int x2]) hS9 (c_M_isPost l g (mkS σ [(3238, (σ.1 3238)), (3242, (σ.1 3242))] [] [(81, (σ.2.2.1 81)), (78, (σ.2.2.1 78)), (79, (σ.2.2.1 79)), (80, (σ.2.2.1 80))] []) x2 z4 hc5) rfl (cwV 1 hts (gz_V mw_5_66 mw_5_68 ms_3_5 mw_1_11 mw_5_69) rfl rfl rfl hdV_X9_isPost ⟨Nat.le_of_ble_eq_true rfl, Nat.le_of_ble_eq_true rfl⟩) hK hG (ga_50 g _) rfl rfl rfl hl.1 rfl (Nat.le_of_ble_eq_true rfl) dX9_kind_10 (fun H locs hG => ?_)
    refine W.eq (g2 := F0 m 13 ls [.int z4]) rfl ?_
    refine lv_if_ne (tgt := 18) hx hb dX9_kind_13 (by decide) (fun c6 => ?_) (fun c6 => ?_)
    · have h := ite_f c6 h
      refine lv_aload_n hx hb dX9_kind_18 rfl (lv_at hl 0 rfl) ?_
      obtain ⟨z7, hc8, h⟩ := bnd_some h
      refine gx_cV (σ' := (mkS σ [(3238, z7.1), (3242, z7.2.1)] [] [(81, z7.2.2.1), (78, z7.2.2.2.1), (79, z7.2.2.2.2.1), (80, z7.2.2.2.2.2)] [])) (r := none) (rest := []) (As := []) hS9 (c_M_findKinds l g (mkS σ [(3238, (σ.1 3238)), (3242, (σ.1 3242))] [] [(81, (σ.2.2.1 81)), (78, (σ.2.2.1 78)), (79, (σ.2.2.1 79)), (80, (σ.2.2.1 80))] []) z7.1 z7.2.1 z7.2.2.1 z7.2.2.2.1 z7.2.2.2.2.1 z7.2.2.2.2.2 hc8) (mk_mk rfl rfl rfl rfl) (cwV 0 hts (gz_V mw_6_98 mw_6_100 ms_5_5 mw_1_11 mw_6_101) rfl rfl rfl hdV_X9_findKinds ⟨Nat.le_of_ble_eq_true rfl, Nat.le_of_ble_eq_true rfl⟩) hK hG (ga_50 g _) rfl rfl rfl hl.1 rfl (Nat.le_of_ble_eq_true rfl) dX9_kind_19 (fun H locs hG => ?_)
      refine W.eq (g2 := F0 m 22 ls []) rfl ?_
      refine lv_aload_n hx hb dX9_kind_22 rfl (lv_at hl 0 rfl) ?_
      refine gx_get (v := .ref (g.2.1 78)) (C := RX9) (T := TX9) (N := 44) hx hb hts mc_X9 hown hK hG (ga_50 g _) rfl 39 (by decide) hw0 rfl rfl dX9_kind_23 ?_
      refine lv_bipush (v := (32 : Int32)) hx hb dX9_kind_26 (by decide) ?_
      refine lv_iload_n hx hb dX9_kind_28 rfl (lv_at hl 1 rfl) ?_
      refine lv_imul hx hb dX9_kind_29 ?_
      refine lv_iload_n hx hb dX9_kind_30 rfl (lv_at hl 2 rfl) ?_
      refine lv_iadd hx hb dX9_kind_31 ?_
      obtain ⟨hg9, h⟩ := gd_some h
      refine gx_iald (f := z7.2.2.2.1) hx hb hK hG (ga_78 g _) hg9 dX9_kind_32 ?_
      cases h
      exact gx_iret hx hb hr hlocks hG dX9_kind_33
    · have h := ite_t c6 h
      exact n16 (σ.1 3238) (σ.1 3242) (σ.2.2.1 81) (σ.2.2.1 78) (σ.2.2.1 79) (σ.2.2.1 80) _ _ _ (lv_sub hl [] rfl) hG h

set_option maxHeartbeats 4000000 in
set_option maxRecDepth 100000 in
theorem c_M_kinds (l : Launch) (g : GC) (σ : St) (r : Int32) (w_areKindsFound : Int32) (w_kindMany : Int32) (w_firstPair : Nat → Int32) (w_kindOf : Nat → Int32) (w_newKind : Nat → Int32) (w_signs : Nat → Int32) (h : M_kinds (σ.1 3238) (σ.1 3242) (σ.1 3203) (σ.2.2.1 81) (σ.2.2.1 78) (σ.2.2.1 79) (σ.2.2.1 54) (σ.2.2.1 80) = some (r, w_areKindsFound, w_kindMany, w_firstPair, w_kindOf, w_newKind, w_signs)) : Cn l g yX9_kinds (Cond.code yX9_kinds cX9_kinds 1 (some .int) :: wG) 3 72 [.ref (g.2.1 50)] σ (some (.int r)) (mkS σ [(3238, w_areKindsFound), (3242, w_kindMany)] [] [(81, w_firstPair), (78, w_kindOf), (79, w_newKind), (80, w_signs)] []) := by
  unfold Cn
  refine Met.ofW (cc := cX9_kinds) (maxL := 1) (ret := (some .int)) (by decide) rfl ?_
  intro p e s m args below meth c s₁ B hml hv
  obtain ⟨hargs, hP0, hK⟩ := hv
  have hx := B.exec
  have hb := B.bytes
  have hr := B.returns
  have hts : ∀ w ∈ wG, w.before args s = true := fun w h => atoms_spec (ws := (Cond.code yX9_kinds cX9_kinds 1 (some .int) :: wG)) B.pre w (List.mem_cons_of_mem _ h)
  have hown : s.vm.findClass RX9 = some m.cls := findClass_of_methodNamed B.named
  have hlocks := B.notSynchronized
  have hS9 : CallFix p m c cX9_kinds 1 s args wG RX9 := ⟨hx, hb, hml, hown, hts⟩
  have hw0 := hts _ mw_4_181
  have hf9 : entryFrame m args 1 = _ := (congrArg (fun a => entryFrame m a 1) hargs).trans (lg_entry_eq m [.ref (g.2.1 50)] 1)
  show Wg p l e 3 72 s m args below meth c g (some (.int r)) (mkS σ [(3238, w_areKindsFound), (3242, w_kindMany)] [] [(81, w_firstPair), (78, w_kindOf), (79, w_newKind), (80, w_signs)] []) s.heap [] (entryFrame m args 1)
  rw [hf9]
  have hl := lv_entry ([.ref (g.2.1 50)]) (n := 1) (Nat.le_of_ble_eq_true rfl)
  generalize (lg_sl ([.ref (g.2.1 50)]) ++ List.replicate (1 - (lg_sl ([.ref (g.2.1 50)])).length) Slot.unset).toArray = ls at hl ⊢
  have hl : lv_has ls 1 [(0, .ref (g.2.1 50))] := hl
  have hG : GW g s σ s.heap [] := ⟨hP0, va_S.rf⟩
  have hG : GW g s (mkS σ [(3238, (σ.1 3238)), (3242, (σ.1 3242))] [] [(81, (σ.2.2.1 81)), (78, (σ.2.2.1 78)), (79, (σ.2.2.1 79)), (80, (σ.2.2.1 80))] []) s.heap [] := GW_self [3238, 3242] [] [81, 78, 79, 80] [] hG
  unfold M_kinds at h
  refine lv_aload_n hx hb dX9_kinds_0 rfl (lv_at hl 0 rfl) ?_
  obtain ⟨z1, hc2, h⟩ := bnd_some h
  refine gx_cV (σ' := (mkS σ [(3238, z1.1), (3242, z1.2.1)] [] [(81, z1.2.2.1), (78, z1.2.2.2.1), (79, z1.2.2.2.2.1), (80, z1.2.2.2.2.2)] [])) (r := none) (rest := []) (As := []) hS9 (c_M_findKinds l g (mkS σ [(3238, (σ.1 3238)), (3242, (σ.1 3242))] [] [(81, (σ.2.2.1 81)), (78, (σ.2.2.1 78)), (79, (σ.2.2.1 79)), (80, (σ.2.2.1 80))] []) z1.1 z1.2.1 z1.2.2.1 z1.2.2.2.1 z1.2.2.2.2.1 z1.2.2.2.2.2 hc2) (mk_mk rfl rfl rfl rfl) (cwV 0 hts (gz_V mw_6_98 mw_6_100 ms_5_5 mw_1_11 mw_6_101) rfl rfl rfl hdV_X9_findKinds ⟨Nat.le_of_ble_eq_true rfl, Nat.le_of_ble_eq_true rfl⟩) hK hG (ga_50 g _) rfl rfl rfl hl.1 rfl (Nat.le_of_ble_eq_true rfl) dX9_kinds_1 (fun H locs hG => ?_)
  refine W.eq (g2 := F0 m 4 ls []) rfl ?_
  refine lv_aload_n hx hb dX9_kinds_4 rfl (lv_at hl 0 rfl) ?_
  refine gx_get (v := .int z1.2.1) (C := RX9) (T := TX9) (N := 44) hx hb hts mc_X9 hown hK hG (ga_50 g _) rfl 42 (by decide) hw0 rfl rfl dX9_kinds_5 ?_
  cases h
  exact gx_iret hx hb hr hlocks hG dX9_kinds_8

set_option maxHeartbeats 4000000 in
set_option maxRecDepth 100000 in
theorem c_M_fullness (l : Launch) (g : GC) (σ : St) (x1 : Int32) (r : Int32) (h : M_fullness x1 (σ.1 3203) (σ.2.2.1 54) = some r) : Cn l g yX9_fullness (Cond.code yX9_fullness cX9_fullness 4 (some .int) :: wG) 0 0 [.ref (g.2.1 50), .int x1] σ (some (.int r)) σ := by
  unfold Cn
  refine Met.ofW (cc := cX9_fullness) (maxL := 4) (ret := (some .int)) (by decide) rfl ?_
  intro p e s m args below meth c s₁ B hml hv
  obtain ⟨hargs, hP0, hK⟩ := hv
  have hx := B.exec
  have hb := B.bytes
  have hr := B.returns
  have hts : ∀ w ∈ wG, w.before args s = true := fun w h => atoms_spec (ws := (Cond.code yX9_fullness cX9_fullness 4 (some .int) :: wG)) B.pre w (List.mem_cons_of_mem _ h)
  have hown : s.vm.findClass RX9 = some m.cls := findClass_of_methodNamed B.named
  have hlocks := B.notSynchronized
  have hw0 := hts _ mw_4_142
  have hw1 := hts _ mw_4_143
  have hf9 : entryFrame m args 4 = _ := (congrArg (fun a => entryFrame m a 4) hargs).trans (lg_entry_eq m [.ref (g.2.1 50), .int x1] 4)
  show Wg p l e 0 0 s m args below meth c g (some (.int r)) σ s.heap [] (entryFrame m args 4)
  rw [hf9]
  have hl := lv_entry ([.ref (g.2.1 50), .int x1]) (n := 4) (Nat.le_of_ble_eq_true rfl)
  generalize (lg_sl ([.ref (g.2.1 50), .int x1]) ++ List.replicate (4 - (lg_sl ([.ref (g.2.1 50), .int x1])).length) Slot.unset).toArray = ls at hl ⊢
  have hl : lv_has ls 4 [(0, .ref (g.2.1 50)), (1, .int x1)] := hl
  have hG : GW g s σ s.heap [] := ⟨hP0, va_S.rf⟩
  unfold M_fullness at h
  have n32 : ∀ (k4 : Int32 → Int32 → Int32 → Option (Int32)) (hk4 : ∀ (x1 : Int32) (x2 : Int32) (x3 : Int32) (H : Heap) (locs : List Loc) (ls : Array Slot), lv_has ls 4 [(0, .ref (g.2.1 50)), (1, .int x1), (2, .int x2), (3, .int x3)] → GW g s σ H locs → k4 x1 x2 x3 = some r → Wg p l e 0 0 s m args below meth c g (some (.int r)) σ H locs (F0 m 4 ls [])) (x1 : Int32) (x3 : Int32) (t0 : Int32) (t1 : Int32) (H : Heap) (locs : List Loc) (ls : Array Slot), lv_has ls 4 [(0, .ref (g.2.1 50)), (1, .int x1), (3, .int x3)] → GW g s σ H locs → M_fullness_n32 k4 x1 x3 t0 t1 = some r → Wg p l e 0 0 s m args below meth c g (some (.int r)) σ H locs (F0 m 32 ls [.int t1, .int t0]) := by
    intro k4 hk4 x1 x3 t0 t1 H locs ls hl hG h
    unfold M_fullness_n32 at h
    refine lv_iadd hx hb dX9_fullness_32 ?_
    refine lv_istore_n (lv' := [(2, .int (t0 + t1)), (0, .ref (g.2.1 50)), (1, .int x1), (3, .int x3)]) hx hb dX9_fullness_33 rfl hl (Nat.le_of_ble_eq_true rfl) rfl (fun ls hl => ?_)
    refine lv_iinc (v := (x3 + (1 : Int32))) (lv' := [(3, .int (x3 + (1 : Int32))), (2, .int (t0 + t1)), (0, .ref (g.2.1 50)), (1, .int x1)]) hx hb dX9_fullness_34 hl (k := 3) rfl (congrArg (fun z => x3 + z) (by decide)) (Nat.le_of_ble_eq_true rfl) rfl (fun ls hl => ?_)
    refine lv_goto (tgt := 4) hx hb dX9_fullness_37 (by decide) ?_
    exact hk4 x1 (t0 + t1) (x3 + (1 : Int32)) _ _ _ (lv_sub hl [2, 3, 1, 0] rfl) hG h
  have n40 : ∀ (x2 : Int32) (H : Heap) (locs : List Loc) (ls : Array Slot), lv_has ls 4 [(2, .int x2)] → GW g s σ H locs → M_fullness_n40 x2 = some r → Wg p l e 0 0 s m args below meth c g (some (.int r)) σ H locs (F0 m 40 ls []) := by
    intro x2 H locs ls hl hG h
    unfold M_fullness_n40 at h
    refine lv_iload_n hx hb dX9_fullness_40 rfl (lv_at hl 0 rfl) ?_
    cases h
    exact gx_iret hx hb hr hlocks hG dX9_fullness_41
  have n4 : ∀ (k4 : Int32 → Int32 → Int32 → Option (Int32)) (hk4 : ∀ (x1 : Int32) (x2 : Int32) (x3 : Int32) (H : Heap) (locs : List Loc) (ls : Array Slot), lv_has ls 4 [(0, .ref (g.2.1 50)), (1, .int x1), (2, .int x2), (3, .int x3)] → GW g s σ H locs → k4 x1 x2 x3 = some r → Wg p l e 0 0 s m args below meth c g (some (.int r)) σ H locs (F0 m 4 ls [])) (x1 : Int32) (x2 : Int32) (x3 : Int32) (H : Heap) (locs : List Loc) (ls : Array Slot), lv_has ls 4 [(0, .ref (g.2.1 50)), (1, .int x1), (2, .int x2), (3, .int x3)] → GW g s σ H locs → M_fullness_n4 k4 (σ.1 3203) (σ.2.2.1 54) x1 x2 x3 = some r → Wg p l e 0 0 s m args below meth c g (some (.int r)) σ H locs (F0 m 4 ls []) := by
    intro k4 hk4 x1 x2 x3 H locs ls hl hG h
    unfold M_fullness_n4 at h
    refine lv_iload_n hx hb dX9_fullness_4 rfl (lv_at hl 3 rfl) ?_
    refine lv_aload_n hx hb dX9_fullness_5 rfl (lv_at hl 0 rfl) ?_
    refine gx_get (v := .int (σ.1 3203)) (C := RX9) (T := TX9) (N := 44) hx hb hts mc_X9 hown hK hG (ga_50 g _) rfl 3 (by decide) hw0 rfl rfl dX9_fullness_6 ?_
    refine lv_icmp_ge (tgt := 40) hx hb dX9_fullness_9 (by decide) (fun c1 => ?_) (fun c1 => ?_)
    · have h := ite_t c1 h
      exact n40 x2 _ _ _ (lv_sub hl [2] rfl) hG h
    · have h := ite_f c1 h
      refine lv_iload_n hx hb dX9_fullness_12 rfl (lv_at hl 2 rfl) ?_
      refine lv_aload_n hx hb dX9_fullness_13 rfl (lv_at hl 0 rfl) ?_
      refine gx_get (v := .ref (g.2.1 54)) (C := RX9) (T := TX9) (N := 44) hx hb hts mc_X9 hown hK hG (ga_50 g _) rfl 4 (by decide) hw1 rfl rfl dX9_fullness_14 ?_
      refine lv_bipush (v := (32 : Int32)) hx hb dX9_fullness_17 (by decide) ?_
      refine lv_iload_n hx hb dX9_fullness_19 rfl (lv_at hl 1 rfl) ?_
      refine lv_imul hx hb dX9_fullness_20 ?_
      refine lv_iload_n hx hb dX9_fullness_21 rfl (lv_at hl 3 rfl) ?_
      refine lv_iadd hx hb dX9_fullness_22 ?_
      obtain ⟨hg2, h⟩ := gd_some h
      refine gx_zald (f := (σ.2.2.1 54)) hx hb hK hG (ga_54 g _) hg2 dX9_fullness_23 ?_
      refine lv_if_eq (tgt := 31) hx hb dX9_fullness_24 (by decide) (fun c3 => ?_) (fun c3 => ?_)
      · have h := ite_t c3 h
        refine lv_iconst (v := (0 : Int32)) hx hb dX9_fullness_31 (by decide) ?_
        exact n32 k4 hk4 x1 x3 x2 (0 : Int32) _ _ _ (lv_sub hl [0, 1, 3] rfl) hG h
      · have h := ite_f c3 h
        refine lv_iconst (v := (1 : Int32)) hx hb dX9_fullness_27 (by decide) ?_
        refine lv_goto (tgt := 32) hx hb dX9_fullness_28 (by decide) ?_
        exact n32 k4 hk4 x1 x3 x2 (1 : Int32) _ _ _ (lv_sub hl [0, 1, 3] rfl) hG h
  have l4 : ∀  (F : Nat) (x1 : Int32) (x2 : Int32) (x3 : Int32) (H : Heap) (locs : List Loc) (ls : Array Slot), lv_has ls 4 [(0, .ref (g.2.1 50)), (1, .int x1), (2, .int x2), (3, .int x3)] → GW g s σ H locs → M_fullness_l4 (σ.1 3203) (σ.2.2.1 54) F x1 x2 x3 = some r → Wg p l e 0 0 s m args below meth c g (some (.int r)) σ H locs (F0 m 4 ls []) := by
    intro F
    induction F with
    | zero => intro x1 x2 x3 H locs ls hl hG h; exact no_some h
    | succ F ih => intro x1 x2 x3 H locs ls hl hG h; exact n4 (fun x1 x2 x3 => M_fullness_l4 (σ.1 3203) (σ.2.2.1 54) F x1 x2 x3) ih x1 x2 x3 H locs ls hl hG h
  refine lv_iconst (v := (0 : Int32)) hx hb dX9_fullness_0 (by decide) ?_
  refine lv_istore_n (lv' := [(2, .int (0 : Int32)), (0, .ref (g.2.1 50)), (1, .int x1)]) hx hb dX9_fullness_1 rfl hl (Nat.le_of_ble_eq_true rfl) rfl (fun ls hl => ?_)
  refine lv_iconst (v := (0 : Int32)) hx hb dX9_fullness_2 (by decide) ?_
  refine lv_istore_n (lv' := [(3, .int (0 : Int32)), (2, .int (0 : Int32)), (0, .ref (g.2.1 50)), (1, .int x1)]) hx hb dX9_fullness_3 rfl hl (Nat.le_of_ble_eq_true rfl) rfl (fun ls hl => ?_)
  exact l4 FUEL x1 (0 : Int32) (0 : Int32) _ _ _ (lv_sub hl [2, 3, 1, 0] rfl) hG h

set_option maxHeartbeats 4000000 in
set_option maxRecDepth 100000 in
theorem c_M_roads (l : Launch) (g : GC) (σ : St) (r : Int32) (h : M_roads (σ.1 3203) (σ.2.2.1 54) = some r) : Cn l g yX9_roads (Cond.code yX9_roads cX9_roads 3 (some .int) :: wG) 1 23 [.ref (g.2.1 50)] σ (some (.int r)) σ := by
  unfold Cn
  refine Met.ofW (cc := cX9_roads) (maxL := 3) (ret := (some .int)) (by decide) rfl ?_
  intro p e s m args below meth c s₁ B hml hv
  obtain ⟨hargs, hP0, hK⟩ := hv
  have hx := B.exec
  have hb := B.bytes
  have hr := B.returns
  have hts : ∀ w ∈ wG, w.before args s = true := fun w h => atoms_spec (ws := (Cond.code yX9_roads cX9_roads 3 (some .int) :: wG)) B.pre w (List.mem_cons_of_mem _ h)
  have hown : s.vm.findClass RX9 = some m.cls := findClass_of_methodNamed B.named
  have hlocks := B.notSynchronized
  have hS9 : CallFix p m c cX9_roads 3 s args wG RX9 := ⟨hx, hb, hml, hown, hts⟩
  have hw0 := hts _ mw_4_142
  have hf9 : entryFrame m args 3 = _ := (congrArg (fun a => entryFrame m a 3) hargs).trans (lg_entry_eq m [.ref (g.2.1 50)] 3)
  show Wg p l e 1 23 s m args below meth c g (some (.int r)) σ s.heap [] (entryFrame m args 3)
  rw [hf9]
  have hl := lv_entry ([.ref (g.2.1 50)]) (n := 3) (Nat.le_of_ble_eq_true rfl)
  generalize (lg_sl ([.ref (g.2.1 50)]) ++ List.replicate (3 - (lg_sl ([.ref (g.2.1 50)])).length) Slot.unset).toArray = ls at hl ⊢
  have hl : lv_has ls 3 [(0, .ref (g.2.1 50))] := hl
  have hG : GW g s σ s.heap [] := ⟨hP0, va_S.rf⟩
  unfold M_roads at h
  have n26 : ∀ (x1 : Int32) (H : Heap) (locs : List Loc) (ls : Array Slot), lv_has ls 3 [(1, .int x1)] → GW g s σ H locs → M_roads_n26 x1 = some r → Wg p l e 1 23 s m args below meth c g (some (.int r)) σ H locs (F0 m 26 ls []) := by
    intro x1 H locs ls hl hG h
    unfold M_roads_n26 at h
    refine lv_iload_n hx hb dX9_roads_26 rfl (lv_at hl 0 rfl) ?_
    refine lv_iconst (v := (2 : Int32)) hx hb dX9_roads_27 (by decide) ?_
    refine lv_idiv hx hb dX9_roads_28 (by decide) ?_
    cases h
    exact gx_iret hx hb hr hlocks hG dX9_roads_29
  have n4 : ∀ (k4 : Int32 → Int32 → Option (Int32)) (hk4 : ∀ (x1 : Int32) (x2 : Int32) (H : Heap) (locs : List Loc) (ls : Array Slot), lv_has ls 3 [(0, .ref (g.2.1 50)), (1, .int x1), (2, .int x2)] → GW g s σ H locs → k4 x1 x2 = some r → Wg p l e 1 23 s m args below meth c g (some (.int r)) σ H locs (F0 m 4 ls [])) (x1 : Int32) (x2 : Int32) (H : Heap) (locs : List Loc) (ls : Array Slot), lv_has ls 3 [(0, .ref (g.2.1 50)), (1, .int x1), (2, .int x2)] → GW g s σ H locs → M_roads_n4 k4 (σ.1 3203) (σ.2.2.1 54) x1 x2 = some r → Wg p l e 1 23 s m args below meth c g (some (.int r)) σ H locs (F0 m 4 ls []) := by
    intro k4 hk4 x1 x2 H locs ls hl hG h
    unfold M_roads_n4 at h
    refine lv_iload_n hx hb dX9_roads_4 rfl (lv_at hl 2 rfl) ?_
    refine lv_aload_n hx hb dX9_roads_5 rfl (lv_at hl 0 rfl) ?_
    refine gx_get (v := .int (σ.1 3203)) (C := RX9) (T := TX9) (N := 44) hx hb hts mc_X9 hown hK hG (ga_50 g _) rfl 3 (by decide) hw0 rfl rfl dX9_roads_6 ?_
    refine lv_icmp_ge (tgt := 26) hx hb dX9_roads_9 (by decide) (fun c1 => ?_) (fun c1 => ?_)
    · have h := ite_t c1 h
      exact n26 x1 _ _ _ (lv_sub hl [1] rfl) hG h
    · have h := ite_f c1 h
      refine lv_iload_n hx hb dX9_roads_12 rfl (lv_at hl 1 rfl) ?_
      refine lv_aload_n hx hb dX9_roads_13 rfl (lv_at hl 0 rfl) ?_
      refine lv_iload_n hx hb dX9_roads_14 rfl (lv_at hl 2 rfl) ?_
      obtain ⟨z2, hc3, h⟩ := bnd_some h
      refine gx_cV (σ' := σ) (r := (some (.int z2))) (rest := [.int x1]) (As := [.int x2]) hS9 (c_M_fullness l g σ x2 z2 hc3) rfl (cwV 1 hts (gz_V mw_5_133 mw_5_135 ms_3_12 mw_1_11 mw_5_136) rfl rfl rfl hdV_X9_fullness ⟨Nat.le_of_ble_eq_true rfl, Nat.le_of_ble_eq_true rfl⟩) hK hG (ga_50 g _) rfl rfl rfl hl.1 rfl (Nat.le_of_ble_eq_true rfl) dX9_roads_15 (fun H locs hG => ?_)
      refine W.eq (g2 := F0 m 18 ls [.int z2, .int x1]) rfl ?_
      refine lv_iadd hx hb dX9_roads_18 ?_
      refine lv_istore_n (lv' := [(1, .int (x1 + z2)), (0, .ref (g.2.1 50)), (2, .int x2)]) hx hb dX9_roads_19 rfl hl (Nat.le_of_ble_eq_true rfl) rfl (fun ls hl => ?_)
      refine lv_iinc (v := (x2 + (1 : Int32))) (lv' := [(2, .int (x2 + (1 : Int32))), (1, .int (x1 + z2)), (0, .ref (g.2.1 50))]) hx hb dX9_roads_20 hl (k := 2) rfl (congrArg (fun z => x2 + z) (by decide)) (Nat.le_of_ble_eq_true rfl) rfl (fun ls hl => ?_)
      refine lv_goto (tgt := 4) hx hb dX9_roads_23 (by decide) ?_
      exact hk4 (x1 + z2) (x2 + (1 : Int32)) _ _ _ (lv_sub hl [2, 1, 0] rfl) hG h
  have l4 : ∀  (F : Nat) (x1 : Int32) (x2 : Int32) (H : Heap) (locs : List Loc) (ls : Array Slot), lv_has ls 3 [(0, .ref (g.2.1 50)), (1, .int x1), (2, .int x2)] → GW g s σ H locs → M_roads_l4 (σ.1 3203) (σ.2.2.1 54) F x1 x2 = some r → Wg p l e 1 23 s m args below meth c g (some (.int r)) σ H locs (F0 m 4 ls []) := by
    intro F
    induction F with
    | zero => intro x1 x2 H locs ls hl hG h; exact no_some h
    | succ F ih => intro x1 x2 H locs ls hl hG h; exact n4 (fun x1 x2 => M_roads_l4 (σ.1 3203) (σ.2.2.1 54) F x1 x2) ih x1 x2 H locs ls hl hG h
  refine lv_iconst (v := (0 : Int32)) hx hb dX9_roads_0 (by decide) ?_
  refine lv_istore_n (lv' := [(1, .int (0 : Int32)), (0, .ref (g.2.1 50))]) hx hb dX9_roads_1 rfl hl (Nat.le_of_ble_eq_true rfl) rfl (fun ls hl => ?_)
  refine lv_iconst (v := (0 : Int32)) hx hb dX9_roads_2 (by decide) ?_
  refine lv_istore_n (lv' := [(2, .int (0 : Int32)), (1, .int (0 : Int32)), (0, .ref (g.2.1 50))]) hx hb dX9_roads_3 rfl hl (Nat.le_of_ble_eq_true rfl) rfl (fun ls hl => ?_)
  exact l4 FUEL (0 : Int32) (0 : Int32) _ _ _ (lv_sub hl [2, 1, 0] rfl) hG h

set_option maxHeartbeats 4000000 in
set_option maxRecDepth 100000 in
theorem c_M_lines (l : Launch) (g : GC) (σ : St) (r : Int32) (w_areKindsFound : Int32) (w_isMeasured : Int32) (w_posts : Int32) (w_lineP : Nat → Int32) (w_lineQ : Nat → Int32) (w_newRoad : Nat → Int32) (w_road : Nat → Int32) (h : M_lines (σ.1 3238) (σ.1 3212) (σ.1 3203) (σ.2.2.1 72) (σ.2.2.1 73) (σ.2.2.1 70) (σ.2.2.1 54) = some (r, w_areKindsFound, w_isMeasured, w_posts, w_lineP, w_lineQ, w_newRoad, w_road)) : Cn l g yX9_lines (Cond.code yX9_lines cX9_lines 5 (some .int) :: wG) 2 45 [.ref (g.2.1 50)] σ (some (.int r)) (mkS σ [(3238, w_areKindsFound), (3212, w_isMeasured), (3203, w_posts)] [] [(72, w_lineP), (73, w_lineQ), (70, w_newRoad), (54, w_road)] []) := by
  unfold Cn
  refine Met.ofW (cc := cX9_lines) (maxL := 5) (ret := (some .int)) (by decide) rfl ?_
  intro p e s m args below meth c s₁ B hml hv
  obtain ⟨hargs, hP0, hK⟩ := hv
  have hx := B.exec
  have hb := B.bytes
  have hr := B.returns
  have hts : ∀ w ∈ wG, w.before args s = true := fun w h => atoms_spec (ws := (Cond.code yX9_lines cX9_lines 5 (some .int) :: wG)) B.pre w (List.mem_cons_of_mem _ h)
  have hown : s.vm.findClass RX9 = some m.cls := findClass_of_methodNamed B.named
  have hlocks := B.notSynchronized
  have hS9 : CallFix p m c cX9_lines 5 s args wG RX9 := ⟨hx, hb, hml, hown, hts⟩
  have hw0 := hts _ mw_4_142
  have hw1 := hts _ mw_4_143
  have hw2 := hts _ mw_4_170
  have hw3 := hts _ mw_4_171
  have hw4 := hts _ mw_4_168
  have hf9 : entryFrame m args 5 = _ := (congrArg (fun a => entryFrame m a 5) hargs).trans (lg_entry_eq m [.ref (g.2.1 50)] 5)
  show Wg p l e 2 45 s m args below meth c g (some (.int r)) (mkS σ [(3238, w_areKindsFound), (3212, w_isMeasured), (3203, w_posts)] [] [(72, w_lineP), (73, w_lineQ), (70, w_newRoad), (54, w_road)] []) s.heap [] (entryFrame m args 5)
  rw [hf9]
  have hl := lv_entry ([.ref (g.2.1 50)]) (n := 5) (Nat.le_of_ble_eq_true rfl)
  generalize (lg_sl ([.ref (g.2.1 50)]) ++ List.replicate (5 - (lg_sl ([.ref (g.2.1 50)])).length) Slot.unset).toArray = ls at hl ⊢
  have hl : lv_has ls 5 [(0, .ref (g.2.1 50))] := hl
  have hG : GW g s σ s.heap [] := ⟨hP0, va_S.rf⟩
  have hG : GW g s (mkS σ [(3238, (σ.1 3238)), (3212, (σ.1 3212)), (3203, (σ.1 3203))] [] [(72, (σ.2.2.1 72)), (73, (σ.2.2.1 73)), (70, (σ.2.2.1 70)), (54, (σ.2.2.1 54))] []) s.heap [] := GW_self [3238, 3212, 3203] [] [72, 73, 70, 54] [] hG
  unfold M_lines at h
  have n67 : ∀ (k28 : Int32 → Int32 → Int32 → Int32 → Int32 → Int32 → (Nat → Int32) → (Nat → Int32) → (Nat → Int32) → (Nat → Int32) → Option (Int32 × Int32 × Int32 × Int32 × (Nat → Int32) × (Nat → Int32) × (Nat → Int32) × (Nat → Int32))) (hk28 : ∀ (x1 : Int32) (x2 : Int32) (x3 : Int32) (v_areKindsFound : Int32) (v_isMeasured : Int32) (v_posts : Int32) (v_lineP : Nat → Int32) (v_lineQ : Nat → Int32) (v_newRoad : Nat → Int32) (v_road : Nat → Int32) (H : Heap) (locs : List Loc) (ls : Array Slot), lv_has ls 5 [(0, .ref (g.2.1 50)), (1, .int x1), (2, .int x2), (3, .int x3)] → GW g s (mkS σ [(3238, v_areKindsFound), (3212, v_isMeasured), (3203, v_posts)] [] [(72, v_lineP), (73, v_lineQ), (70, v_newRoad), (54, v_road)] []) H locs → k28 x1 x2 x3 v_areKindsFound v_isMeasured v_posts v_lineP v_lineQ v_newRoad v_road = some (r, w_areKindsFound, w_isMeasured, w_posts, w_lineP, w_lineQ, w_newRoad, w_road) → Wg p l e 2 45 s m args below meth c g (some (.int r)) (mkS σ [(3238, w_areKindsFound), (3212, w_isMeasured), (3203, w_posts)] [] [(72, w_lineP), (73, w_lineQ), (70, w_newRoad), (54, w_road)] []) H locs (F0 m 28 ls [])) (x1 : Int32) (x2 : Int32) (x3 : Int32) (v_areKindsFound : Int32) (v_isMeasured : Int32) (v_posts : Int32) (v_lineP : Nat → Int32) (v_lineQ : Nat → Int32) (v_newRoad : Nat → Int32) (v_road : Nat → Int32) (H : Heap) (locs : List Loc) (ls : Array Slot), lv_has ls 5 [(0, .ref (g.2.1 50)), (1, .int x1), (2, .int x2), (3, .int x3)] → GW g s (mkS σ [(3238, v_areKindsFound), (3212, v_isMeasured), (3203, v_posts)] [] [(72, v_lineP), (73, v_lineQ), (70, v_newRoad), (54, v_road)] []) H locs → M_lines_n67 k28 x1 x2 x3 v_areKindsFound v_isMeasured v_posts v_lineP v_lineQ v_newRoad v_road = some (r, w_areKindsFound, w_isMeasured, w_posts, w_lineP, w_lineQ, w_newRoad, w_road) → Wg p l e 2 45 s m args below meth c g (some (.int r)) (mkS σ [(3238, w_areKindsFound), (3212, w_isMeasured), (3203, w_posts)] [] [(72, w_lineP), (73, w_lineQ), (70, w_newRoad), (54, w_road)] []) H locs (F0 m 67 ls []) := by
    intro k28 hk28 x1 x2 x3 v_areKindsFound v_isMeasured v_posts v_lineP v_lineQ v_newRoad v_road H locs ls hl hG h
    unfold M_lines_n67 at h
    refine lv_iinc (v := (x3 + (1 : Int32))) (lv' := [(3, .int (x3 + (1 : Int32))), (0, .ref (g.2.1 50)), (1, .int x1), (2, .int x2)]) hx hb dX9_lines_67 hl (k := 3) rfl (congrArg (fun z => x3 + z) (by decide)) (Nat.le_of_ble_eq_true rfl) rfl (fun ls hl => ?_)
    refine lv_goto (tgt := 28) hx hb dX9_lines_70 (by decide) ?_
    exact hk28 x1 x2 (x3 + (1 : Int32)) v_areKindsFound v_isMeasured v_posts v_lineP v_lineQ v_newRoad v_road _ _ _ (lv_sub hl [1, 2, 3, 0] rfl) hG h
  have n73 : ∀ (k16 : Int32 → Int32 → Int32 → Int32 → Int32 → (Nat → Int32) → (Nat → Int32) → (Nat → Int32) → (Nat → Int32) → Option (Int32 × Int32 × Int32 × Int32 × (Nat → Int32) × (Nat → Int32) × (Nat → Int32) × (Nat → Int32))) (hk16 : ∀ (x1 : Int32) (x2 : Int32) (v_areKindsFound : Int32) (v_isMeasured : Int32) (v_posts : Int32) (v_lineP : Nat → Int32) (v_lineQ : Nat → Int32) (v_newRoad : Nat → Int32) (v_road : Nat → Int32) (H : Heap) (locs : List Loc) (ls : Array Slot), lv_has ls 5 [(0, .ref (g.2.1 50)), (1, .int x1), (2, .int x2)] → GW g s (mkS σ [(3238, v_areKindsFound), (3212, v_isMeasured), (3203, v_posts)] [] [(72, v_lineP), (73, v_lineQ), (70, v_newRoad), (54, v_road)] []) H locs → k16 x1 x2 v_areKindsFound v_isMeasured v_posts v_lineP v_lineQ v_newRoad v_road = some (r, w_areKindsFound, w_isMeasured, w_posts, w_lineP, w_lineQ, w_newRoad, w_road) → Wg p l e 2 45 s m args below meth c g (some (.int r)) (mkS σ [(3238, w_areKindsFound), (3212, w_isMeasured), (3203, w_posts)] [] [(72, w_lineP), (73, w_lineQ), (70, w_newRoad), (54, w_road)] []) H locs (F0 m 16 ls [])) (x1 : Int32) (x2 : Int32) (v_areKindsFound : Int32) (v_isMeasured : Int32) (v_posts : Int32) (v_lineP : Nat → Int32) (v_lineQ : Nat → Int32) (v_newRoad : Nat → Int32) (v_road : Nat → Int32) (H : Heap) (locs : List Loc) (ls : Array Slot), lv_has ls 5 [(0, .ref (g.2.1 50)), (1, .int x1), (2, .int x2)] → GW g s (mkS σ [(3238, v_areKindsFound), (3212, v_isMeasured), (3203, v_posts)] [] [(72, v_lineP), (73, v_lineQ), (70, v_newRoad), (54, v_road)] []) H locs → M_lines_n73 k16 x1 x2 v_areKindsFound v_isMeasured v_posts v_lineP v_lineQ v_newRoad v_road = some (r, w_areKindsFound, w_isMeasured, w_posts, w_lineP, w_lineQ, w_newRoad, w_road) → Wg p l e 2 45 s m args below meth c g (some (.int r)) (mkS σ [(3238, w_areKindsFound), (3212, w_isMeasured), (3203, w_posts)] [] [(72, w_lineP), (73, w_lineQ), (70, w_newRoad), (54, w_road)] []) H locs (F0 m 73 ls []) := by
    intro k16 hk16 x1 x2 v_areKindsFound v_isMeasured v_posts v_lineP v_lineQ v_newRoad v_road H locs ls hl hG h
    unfold M_lines_n73 at h
    refine lv_iinc (v := (x2 + (1 : Int32))) (lv' := [(2, .int (x2 + (1 : Int32))), (0, .ref (g.2.1 50)), (1, .int x1)]) hx hb dX9_lines_73 hl (k := 2) rfl (congrArg (fun z => x2 + z) (by decide)) (Nat.le_of_ble_eq_true rfl) rfl (fun ls hl => ?_)
    refine lv_goto (tgt := 16) hx hb dX9_lines_76 (by decide) ?_
    exact hk16 x1 (x2 + (1 : Int32)) v_areKindsFound v_isMeasured v_posts v_lineP v_lineQ v_newRoad v_road _ _ _ (lv_sub hl [1, 2, 0] rfl) hG h
  have n28 : ∀ (k16 : Int32 → Int32 → Int32 → Int32 → Int32 → (Nat → Int32) → (Nat → Int32) → (Nat → Int32) → (Nat → Int32) → Option (Int32 × Int32 × Int32 × Int32 × (Nat → Int32) × (Nat → Int32) × (Nat → Int32) × (Nat → Int32))) (hk16 : ∀ (x1 : Int32) (x2 : Int32) (v_areKindsFound : Int32) (v_isMeasured : Int32) (v_posts : Int32) (v_lineP : Nat → Int32) (v_lineQ : Nat → Int32) (v_newRoad : Nat → Int32) (v_road : Nat → Int32) (H : Heap) (locs : List Loc) (ls : Array Slot), lv_has ls 5 [(0, .ref (g.2.1 50)), (1, .int x1), (2, .int x2)] → GW g s (mkS σ [(3238, v_areKindsFound), (3212, v_isMeasured), (3203, v_posts)] [] [(72, v_lineP), (73, v_lineQ), (70, v_newRoad), (54, v_road)] []) H locs → k16 x1 x2 v_areKindsFound v_isMeasured v_posts v_lineP v_lineQ v_newRoad v_road = some (r, w_areKindsFound, w_isMeasured, w_posts, w_lineP, w_lineQ, w_newRoad, w_road) → Wg p l e 2 45 s m args below meth c g (some (.int r)) (mkS σ [(3238, w_areKindsFound), (3212, w_isMeasured), (3203, w_posts)] [] [(72, w_lineP), (73, w_lineQ), (70, w_newRoad), (54, w_road)] []) H locs (F0 m 16 ls [])) (k28 : Int32 → Int32 → Int32 → Int32 → Int32 → Int32 → (Nat → Int32) → (Nat → Int32) → (Nat → Int32) → (Nat → Int32) → Option (Int32 × Int32 × Int32 × Int32 × (Nat → Int32) × (Nat → Int32) × (Nat → Int32) × (Nat → Int32))) (hk28 : ∀ (x1 : Int32) (x2 : Int32) (x3 : Int32) (v_areKindsFound : Int32) (v_isMeasured : Int32) (v_posts : Int32) (v_lineP : Nat → Int32) (v_lineQ : Nat → Int32) (v_newRoad : Nat → Int32) (v_road : Nat → Int32) (H : Heap) (locs : List Loc) (ls : Array Slot), lv_has ls 5 [(0, .ref (g.2.1 50)), (1, .int x1), (2, .int x2), (3, .int x3)] → GW g s (mkS σ [(3238, v_areKindsFound), (3212, v_isMeasured), (3203, v_posts)] [] [(72, v_lineP), (73, v_lineQ), (70, v_newRoad), (54, v_road)] []) H locs → k28 x1 x2 x3 v_areKindsFound v_isMeasured v_posts v_lineP v_lineQ v_newRoad v_road = some (r, w_areKindsFound, w_isMeasured, w_posts, w_lineP, w_lineQ, w_newRoad, w_road) → Wg p l e 2 45 s m args below meth c g (some (.int r)) (mkS σ [(3238, w_areKindsFound), (3212, w_isMeasured), (3203, w_posts)] [] [(72, w_lineP), (73, w_lineQ), (70, w_newRoad), (54, w_road)] []) H locs (F0 m 28 ls [])) (x1 : Int32) (x2 : Int32) (x3 : Int32) (v_areKindsFound : Int32) (v_isMeasured : Int32) (v_posts : Int32) (v_lineP : Nat → Int32) (v_lineQ : Nat → Int32) (v_newRoad : Nat → Int32) (v_road : Nat → Int32) (H : Heap) (locs : List Loc) (ls : Array Slot), lv_has ls 5 [(0, .ref (g.2.1 50)), (1, .int x1), (2, .int x2), (3, .int x3)] → GW g s (mkS σ [(3238, v_areKindsFound), (3212, v_isMeasured), (3203, v_posts)] [] [(72, v_lineP), (73, v_lineQ), (70, v_newRoad), (54, v_road)] []) H locs → M_lines_n28 k16 k28 x1 x2 x3 v_areKindsFound v_isMeasured v_posts v_lineP v_lineQ v_newRoad v_road = some (r, w_areKindsFound, w_isMeasured, w_posts, w_lineP, w_lineQ, w_newRoad, w_road) → Wg p l e 2 45 s m args below meth c g (some (.int r)) (mkS σ [(3238, w_areKindsFound), (3212, w_isMeasured), (3203, w_posts)] [] [(72, w_lineP), (73, w_lineQ), (70, w_newRoad), (54, w_road)] []) H locs (F0 m 28 ls []) := by
    intro k16 hk16 k28 hk28 x1 x2 x3 v_areKindsFound v_isMeasured v_posts v_lineP v_lineQ v_newRoad v_road H locs ls hl hG h
    unfold M_lines_n28 at h
    refine lv_iload_n hx hb dX9_lines_28 rfl (lv_at hl 3 rfl) ?_
    refine lv_aload_n hx hb dX9_lines_29 rfl (lv_at hl 0 rfl) ?_
    refine gx_get (v := .int v_posts) (C := RX9) (T := TX9) (N := 44) hx hb hts mc_X9 hown hK hG (ga_50 g _) rfl 3 (by decide) hw0 rfl rfl dX9_lines_30 ?_
    refine lv_icmp_ge (tgt := 73) hx hb dX9_lines_33 (by decide) (fun c1 => ?_) (fun c1 => ?_)
    · have h := ite_t c1 h
      exact n73 k16 hk16 x1 x2 v_areKindsFound v_isMeasured v_posts v_lineP v_lineQ v_newRoad v_road _ _ _ (lv_sub hl [0, 1, 2] rfl) hG h
    · have h := ite_f c1 h
      refine lv_aload_n hx hb dX9_lines_36 rfl (lv_at hl 0 rfl) ?_
      refine gx_get (v := .ref (g.2.1 54)) (C := RX9) (T := TX9) (N := 44) hx hb hts mc_X9 hown hK hG (ga_50 g _) rfl 4 (by decide) hw1 rfl rfl dX9_lines_37 ?_
      refine lv_bipush (v := (32 : Int32)) hx hb dX9_lines_40 (by decide) ?_
      refine lv_iload_n hx hb dX9_lines_42 rfl (lv_at hl 2 rfl) ?_
      refine lv_imul hx hb dX9_lines_43 ?_
      refine lv_iload_n hx hb dX9_lines_44 rfl (lv_at hl 3 rfl) ?_
      refine lv_iadd hx hb dX9_lines_45 ?_
      obtain ⟨hg2, h⟩ := gd_some h
      refine gx_zald (f := v_road) hx hb hK hG (ga_54 g _) hg2 dX9_lines_46 ?_
      refine lv_if_eq (tgt := 67) hx hb dX9_lines_47 (by decide) (fun c3 => ?_) (fun c3 => ?_)
      · have h := ite_t c3 h
        exact n67 k28 hk28 x1 x2 x3 v_areKindsFound v_isMeasured v_posts v_lineP v_lineQ v_newRoad v_road _ _ _ (lv_sub hl [0, 1, 2, 3] rfl) hG h
      · have h := ite_f c3 h
        refine lv_aload_n hx hb dX9_lines_50 rfl (lv_at hl 0 rfl) ?_
        refine gx_get (v := .ref (g.2.1 72)) (C := RX9) (T := TX9) (N := 44) hx hb hts mc_X9 hown hK hG (ga_50 g _) rfl 31 (by decide) hw2 rfl rfl dX9_lines_51 ?_
        refine lv_iload_n hx hb dX9_lines_54 rfl (lv_at hl 1 rfl) ?_
        refine lv_iload_n hx hb dX9_lines_55 rfl (lv_at hl 2 rfl) ?_
        obtain ⟨hg4, h⟩ := gd_some h
        refine gx_iast (σ' := (mkS σ [(3238, v_areKindsFound), (3212, v_isMeasured), (3203, v_posts)] [] [(72, (upd v_lineP (x1.toNatClampNeg) x2)), (73, v_lineQ), (70, v_newRoad), (54, v_road)] [])) (f := v_lineP) hx hb hK hG (ga_72 g _) hg4 ((gs_72 g _ _).trans (congrArg (g_cells g) (mk_c 0 rfl rfl))) dX9_lines_56 (fun H locs hG => ?_)
        refine lv_aload_n hx hb dX9_lines_57 rfl (lv_at hl 0 rfl) ?_
        refine gx_get (v := .ref (g.2.1 73)) (C := RX9) (T := TX9) (N := 44) hx hb hts mc_X9 hown hK hG (ga_50 g _) rfl 32 (by decide) hw3 rfl rfl dX9_lines_58 ?_
        refine lv_iload_n hx hb dX9_lines_61 rfl (lv_at hl 1 rfl) ?_
        refine lv_iload_n hx hb dX9_lines_62 rfl (lv_at hl 3 rfl) ?_
        refine gx_iast (σ' := (mkS σ [(3238, v_areKindsFound), (3212, v_isMeasured), (3203, v_posts)] [] [(72, (upd v_lineP (x1.toNatClampNeg) x2)), (73, (upd v_lineQ (x1.toNatClampNeg) x3)), (70, v_newRoad), (54, v_road)] [])) (f := v_lineQ) hx hb hK hG (ga_73 g _) hg4 ((gs_73 g _ _).trans (congrArg (g_cells g) (mk_c 1 rfl rfl))) dX9_lines_63 (fun H locs hG => ?_)
        refine lv_iinc (v := (x1 + (1 : Int32))) (lv' := [(1, .int (x1 + (1 : Int32))), (0, .ref (g.2.1 50)), (2, .int x2), (3, .int x3)]) hx hb dX9_lines_64 hl (k := 1) rfl (congrArg (fun z => x1 + z) (by decide)) (Nat.le_of_ble_eq_true rfl) rfl (fun ls hl => ?_)
        exact n67 k28 hk28 (x1 + (1 : Int32)) x2 x3 v_areKindsFound v_isMeasured v_posts (upd v_lineP (x1.toNatClampNeg) x2) (upd v_lineQ (x1.toNatClampNeg) x3) v_newRoad v_road _ _ _ (lv_sub hl [1, 0, 2, 3] rfl) hG h
  have l28 : ∀ (k16 : Int32 → Int32 → Int32 → Int32 → Int32 → (Nat → Int32) → (Nat → Int32) → (Nat → Int32) → (Nat → Int32) → Option (Int32 × Int32 × Int32 × Int32 × (Nat → Int32) × (Nat → Int32) × (Nat → Int32) × (Nat → Int32))) (hk16 : ∀ (x1 : Int32) (x2 : Int32) (v_areKindsFound : Int32) (v_isMeasured : Int32) (v_posts : Int32) (v_lineP : Nat → Int32) (v_lineQ : Nat → Int32) (v_newRoad : Nat → Int32) (v_road : Nat → Int32) (H : Heap) (locs : List Loc) (ls : Array Slot), lv_has ls 5 [(0, .ref (g.2.1 50)), (1, .int x1), (2, .int x2)] → GW g s (mkS σ [(3238, v_areKindsFound), (3212, v_isMeasured), (3203, v_posts)] [] [(72, v_lineP), (73, v_lineQ), (70, v_newRoad), (54, v_road)] []) H locs → k16 x1 x2 v_areKindsFound v_isMeasured v_posts v_lineP v_lineQ v_newRoad v_road = some (r, w_areKindsFound, w_isMeasured, w_posts, w_lineP, w_lineQ, w_newRoad, w_road) → Wg p l e 2 45 s m args below meth c g (some (.int r)) (mkS σ [(3238, w_areKindsFound), (3212, w_isMeasured), (3203, w_posts)] [] [(72, w_lineP), (73, w_lineQ), (70, w_newRoad), (54, w_road)] []) H locs (F0 m 16 ls [])) (F : Nat) (x1 : Int32) (x2 : Int32) (x3 : Int32) (v_areKindsFound : Int32) (v_isMeasured : Int32) (v_posts : Int32) (v_lineP : Nat → Int32) (v_lineQ : Nat → Int32) (v_newRoad : Nat → Int32) (v_road : Nat → Int32) (H : Heap) (locs : List Loc) (ls : Array Slot), lv_has ls 5 [(0, .ref (g.2.1 50)), (1, .int x1), (2, .int x2), (3, .int x3)] → GW g s (mkS σ [(3238, v_areKindsFound), (3212, v_isMeasured), (3203, v_posts)] [] [(72, v_lineP), (73, v_lineQ), (70, v_newRoad), (54, v_road)] []) H locs → M_lines_l28 k16 F x1 x2 x3 v_areKindsFound v_isMeasured v_posts v_lineP v_lineQ v_newRoad v_road = some (r, w_areKindsFound, w_isMeasured, w_posts, w_lineP, w_lineQ, w_newRoad, w_road) → Wg p l e 2 45 s m args below meth c g (some (.int r)) (mkS σ [(3238, w_areKindsFound), (3212, w_isMeasured), (3203, w_posts)] [] [(72, w_lineP), (73, w_lineQ), (70, w_newRoad), (54, w_road)] []) H locs (F0 m 28 ls []) := by
    intro k16 hk16 F
    induction F with
    | zero => intro x1 x2 x3 v_areKindsFound v_isMeasured v_posts v_lineP v_lineQ v_newRoad v_road H locs ls hl hG h; exact no_some h
    | succ F ih => intro x1 x2 x3 v_areKindsFound v_isMeasured v_posts v_lineP v_lineQ v_newRoad v_road H locs ls hl hG h; exact n28 k16 hk16 (fun x1 x2 x3 v_areKindsFound v_isMeasured v_posts v_lineP v_lineQ v_newRoad v_road => M_lines_l28 k16 F x1 x2 x3 v_areKindsFound v_isMeasured v_posts v_lineP v_lineQ v_newRoad v_road) ih x1 x2 x3 v_areKindsFound v_isMeasured v_posts v_lineP v_lineQ v_newRoad v_road H locs ls hl hG h
  have n189 : ∀ (k92 : Int32 → Int32 → Int32 → Int32 → Int32 → Int32 → (Nat → Int32) → (Nat → Int32) → (Nat → Int32) → (Nat → Int32) → Option (Int32 × Int32 × Int32 × Int32 × (Nat → Int32) × (Nat → Int32) × (Nat → Int32) × (Nat → Int32))) (hk92 : ∀ (x1 : Int32) (x2 : Int32) (x3 : Int32) (v_areKindsFound : Int32) (v_isMeasured : Int32) (v_posts : Int32) (v_lineP : Nat → Int32) (v_lineQ : Nat → Int32) (v_newRoad : Nat → Int32) (v_road : Nat → Int32) (H : Heap) (locs : List Loc) (ls : Array Slot), lv_has ls 5 [(0, .ref (g.2.1 50)), (1, .int x1), (2, .int x2), (3, .int x3)] → GW g s (mkS σ [(3238, v_areKindsFound), (3212, v_isMeasured), (3203, v_posts)] [] [(72, v_lineP), (73, v_lineQ), (70, v_newRoad), (54, v_road)] []) H locs → k92 x1 x2 x3 v_areKindsFound v_isMeasured v_posts v_lineP v_lineQ v_newRoad v_road = some (r, w_areKindsFound, w_isMeasured, w_posts, w_lineP, w_lineQ, w_newRoad, w_road) → Wg p l e 2 45 s m args below meth c g (some (.int r)) (mkS σ [(3238, w_areKindsFound), (3212, w_isMeasured), (3203, w_posts)] [] [(72, w_lineP), (73, w_lineQ), (70, w_newRoad), (54, w_road)] []) H locs (F0 m 92 ls [])) (x1 : Int32) (x2 : Int32) (x3 : Int32) (t1 : Int32) (t2 : Int32) (v_areKindsFound : Int32) (v_isMeasured : Int32) (v_posts : Int32) (v_lineP : Nat → Int32) (v_lineQ : Nat → Int32) (v_newRoad : Nat → Int32) (v_road : Nat → Int32) (H : Heap) (locs : List Loc) (ls : Array Slot), lv_has ls 5 [(0, .ref (g.2.1 50)), (1, .int x1), (2, .int x2), (3, .int x3)] → GW g s (mkS σ [(3238, v_areKindsFound), (3212, v_isMeasured), (3203, v_posts)] [] [(72, v_lineP), (73, v_lineQ), (70, v_newRoad), (54, v_road)] []) H locs → M_lines_n189 k92 x1 x2 x3 t1 t2 v_areKindsFound v_isMeasured v_posts v_lineP v_lineQ v_newRoad v_road = some (r, w_areKindsFound, w_isMeasured, w_posts, w_lineP, w_lineQ, w_newRoad, w_road) → Wg p l e 2 45 s m args below meth c g (some (.int r)) (mkS σ [(3238, w_areKindsFound), (3212, w_isMeasured), (3203, w_posts)] [] [(72, w_lineP), (73, w_lineQ), (70, w_newRoad), (54, w_road)] []) H locs (F0 m 189 ls [.int t2, .int t1, .ref (g.2.1 70)]) := by
    intro k92 hk92 x1 x2 x3 t1 t2 v_areKindsFound v_isMeasured v_posts v_lineP v_lineQ v_newRoad v_road H locs ls hl hG h
    unfold M_lines_n189 at h
    obtain ⟨hg5, h⟩ := gd_some h
    obtain ⟨hg6, h⟩ := gd_some h
    refine gx_zast (σ' := (mkS σ [(3238, v_areKindsFound), (3212, v_isMeasured), (3203, v_posts)] [] [(72, v_lineP), (73, v_lineQ), (70, (upd v_newRoad (t1.toNatClampNeg) t2)), (54, v_road)] [])) (f := v_newRoad) hx hb hK hG (ga_70 g _) hg5 hg6 ((gs_70 g _ _).trans (congrArg (g_cells g) (mk_c 2 rfl rfl))) dX9_lines_189 (fun H locs hG => ?_)
    refine lv_iinc (v := (x3 + (1 : Int32))) (lv' := [(3, .int (x3 + (1 : Int32))), (0, .ref (g.2.1 50)), (1, .int x1), (2, .int x2)]) hx hb dX9_lines_190 hl (k := 3) rfl (congrArg (fun z => x3 + z) (by decide)) (Nat.le_of_ble_eq_true rfl) rfl (fun ls hl => ?_)
    refine lv_goto (tgt := 92) hx hb dX9_lines_193 (by decide) ?_
    exact hk92 x1 x2 (x3 + (1 : Int32)) v_areKindsFound v_isMeasured v_posts v_lineP v_lineQ (upd v_newRoad (t1.toNatClampNeg) t2) v_road _ _ _ (lv_sub hl [1, 2, 3, 0] rfl) hG h
  have n188 : ∀ (k92 : Int32 → Int32 → Int32 → Int32 → Int32 → Int32 → (Nat → Int32) → (Nat → Int32) → (Nat → Int32) → (Nat → Int32) → Option (Int32 × Int32 × Int32 × Int32 × (Nat → Int32) × (Nat → Int32) × (Nat → Int32) × (Nat → Int32))) (hk92 : ∀ (x1 : Int32) (x2 : Int32) (x3 : Int32) (v_areKindsFound : Int32) (v_isMeasured : Int32) (v_posts : Int32) (v_lineP : Nat → Int32) (v_lineQ : Nat → Int32) (v_newRoad : Nat → Int32) (v_road : Nat → Int32) (H : Heap) (locs : List Loc) (ls : Array Slot), lv_has ls 5 [(0, .ref (g.2.1 50)), (1, .int x1), (2, .int x2), (3, .int x3)] → GW g s (mkS σ [(3238, v_areKindsFound), (3212, v_isMeasured), (3203, v_posts)] [] [(72, v_lineP), (73, v_lineQ), (70, v_newRoad), (54, v_road)] []) H locs → k92 x1 x2 x3 v_areKindsFound v_isMeasured v_posts v_lineP v_lineQ v_newRoad v_road = some (r, w_areKindsFound, w_isMeasured, w_posts, w_lineP, w_lineQ, w_newRoad, w_road) → Wg p l e 2 45 s m args below meth c g (some (.int r)) (mkS σ [(3238, w_areKindsFound), (3212, w_isMeasured), (3203, w_posts)] [] [(72, w_lineP), (73, w_lineQ), (70, w_newRoad), (54, w_road)] []) H locs (F0 m 92 ls [])) (x1 : Int32) (x2 : Int32) (x3 : Int32) (t1 : Int32) (v_areKindsFound : Int32) (v_isMeasured : Int32) (v_posts : Int32) (v_lineP : Nat → Int32) (v_lineQ : Nat → Int32) (v_newRoad : Nat → Int32) (v_road : Nat → Int32) (H : Heap) (locs : List Loc) (ls : Array Slot), lv_has ls 5 [(0, .ref (g.2.1 50)), (1, .int x1), (2, .int x2), (3, .int x3)] → GW g s (mkS σ [(3238, v_areKindsFound), (3212, v_isMeasured), (3203, v_posts)] [] [(72, v_lineP), (73, v_lineQ), (70, v_newRoad), (54, v_road)] []) H locs → M_lines_n188 k92 x1 x2 x3 t1 v_areKindsFound v_isMeasured v_posts v_lineP v_lineQ v_newRoad v_road = some (r, w_areKindsFound, w_isMeasured, w_posts, w_lineP, w_lineQ, w_newRoad, w_road) → Wg p l e 2 45 s m args below meth c g (some (.int r)) (mkS σ [(3238, w_areKindsFound), (3212, w_isMeasured), (3203, w_posts)] [] [(72, w_lineP), (73, w_lineQ), (70, w_newRoad), (54, w_road)] []) H locs (F0 m 188 ls [.int t1, .ref (g.2.1 70)]) := by
    intro k92 hk92 x1 x2 x3 t1 v_areKindsFound v_isMeasured v_posts v_lineP v_lineQ v_newRoad v_road H locs ls hl hG h
    unfold M_lines_n188 at h
    refine lv_iconst (v := (0 : Int32)) hx hb dX9_lines_188 (by decide) ?_
    exact n189 k92 hk92 x1 x2 x3 t1 (0 : Int32) v_areKindsFound v_isMeasured v_posts v_lineP v_lineQ v_newRoad v_road _ _ _ (lv_sub hl [0, 1, 2, 3] rfl) hG h
  have n162 : ∀ (k92 : Int32 → Int32 → Int32 → Int32 → Int32 → Int32 → (Nat → Int32) → (Nat → Int32) → (Nat → Int32) → (Nat → Int32) → Option (Int32 × Int32 × Int32 × Int32 × (Nat → Int32) × (Nat → Int32) × (Nat → Int32) × (Nat → Int32))) (hk92 : ∀ (x1 : Int32) (x2 : Int32) (x3 : Int32) (v_areKindsFound : Int32) (v_isMeasured : Int32) (v_posts : Int32) (v_lineP : Nat → Int32) (v_lineQ : Nat → Int32) (v_newRoad : Nat → Int32) (v_road : Nat → Int32) (H : Heap) (locs : List Loc) (ls : Array Slot), lv_has ls 5 [(0, .ref (g.2.1 50)), (1, .int x1), (2, .int x2), (3, .int x3)] → GW g s (mkS σ [(3238, v_areKindsFound), (3212, v_isMeasured), (3203, v_posts)] [] [(72, v_lineP), (73, v_lineQ), (70, v_newRoad), (54, v_road)] []) H locs → k92 x1 x2 x3 v_areKindsFound v_isMeasured v_posts v_lineP v_lineQ v_newRoad v_road = some (r, w_areKindsFound, w_isMeasured, w_posts, w_lineP, w_lineQ, w_newRoad, w_road) → Wg p l e 2 45 s m args below meth c g (some (.int r)) (mkS σ [(3238, w_areKindsFound), (3212, w_isMeasured), (3203, w_posts)] [] [(72, w_lineP), (73, w_lineQ), (70, w_newRoad), (54, w_road)] []) H locs (F0 m 92 ls [])) (x1 : Int32) (x2 : Int32) (x3 : Int32) (t0 : Int32) (v_areKindsFound : Int32) (v_isMeasured : Int32) (v_posts : Int32) (v_lineP : Nat → Int32) (v_lineQ : Nat → Int32) (v_newRoad : Nat → Int32) (v_road : Nat → Int32) (H : Heap) (locs : List Loc) (ls : Array Slot), lv_has ls 5 [(0, .ref (g.2.1 50)), (1, .int x1), (2, .int x2), (3, .int x3)] → GW g s (mkS σ [(3238, v_areKindsFound), (3212, v_isMeasured), (3203, v_posts)] [] [(72, v_lineP), (73, v_lineQ), (70, v_newRoad), (54, v_road)] []) H locs → M_lines_n162 k92 x1 x2 x3 t0 v_areKindsFound v_isMeasured v_posts v_lineP v_lineQ v_newRoad v_road = some (r, w_areKindsFound, w_isMeasured, w_posts, w_lineP, w_lineQ, w_newRoad, w_road) → Wg p l e 2 45 s m args below meth c g (some (.int r)) (mkS σ [(3238, w_areKindsFound), (3212, w_isMeasured), (3203, w_posts)] [] [(72, w_lineP), (73, w_lineQ), (70, w_newRoad), (54, w_road)] []) H locs (F0 m 162 ls [.int t0]) := by
    intro k92 hk92 x1 x2 x3 t0 v_areKindsFound v_isMeasured v_posts v_lineP v_lineQ v_newRoad v_road H locs ls hl hG h
    unfold M_lines_n162 at h
    refine lv_istore (lv' := [(4, .int t0), (0, .ref (g.2.1 50)), (1, .int x1), (2, .int x2), (3, .int x3)]) hx hb dX9_lines_162 hl (Nat.le_of_ble_eq_true rfl) rfl (fun ls hl => ?_)
    refine lv_aload_n hx hb dX9_lines_164 rfl (lv_at hl 1 rfl) ?_
    refine gx_get (v := .ref (g.2.1 70)) (C := RX9) (T := TX9) (N := 44) hx hb hts mc_X9 hown hK hG (ga_50 g _) rfl 29 (by decide) hw4 rfl rfl dX9_lines_165 ?_
    refine lv_bipush (v := (32 : Int32)) hx hb dX9_lines_168 (by decide) ?_
    refine lv_iload_n hx hb dX9_lines_170 rfl (lv_at hl 3 rfl) ?_
    refine lv_imul hx hb dX9_lines_171 ?_
    refine lv_iload_n hx hb dX9_lines_172 rfl (lv_at hl 4 rfl) ?_
    refine lv_iadd hx hb dX9_lines_173 ?_
    refine lv_iload_n hx hb dX9_lines_174 rfl (lv_at hl 3 rfl) ?_
    refine lv_iload_n hx hb dX9_lines_175 rfl (lv_at hl 4 rfl) ?_
    refine lv_icmp_eq (tgt := 188) hx hb dX9_lines_176 (by decide) (fun c7 => ?_) (fun c7 => ?_)
    · have h := ite_t c7 h
      exact n188 k92 hk92 x1 x2 x3 (((32 : Int32) * x2) + x3) v_areKindsFound v_isMeasured v_posts v_lineP v_lineQ v_newRoad v_road _ _ _ (lv_sub hl [1, 2, 3, 4] rfl) hG h
    · have h := ite_f c7 h
      refine lv_iload hx hb dX9_lines_179 (lv_at hl 0 rfl) ?_
      refine lv_if_eq (tgt := 188) hx hb dX9_lines_181 (by decide) (fun c8 => ?_) (fun c8 => ?_)
      · have h := ite_t c8 h
        exact n188 k92 hk92 x1 x2 x3 (((32 : Int32) * x2) + x3) v_areKindsFound v_isMeasured v_posts v_lineP v_lineQ v_newRoad v_road _ _ _ (lv_sub hl [1, 2, 3, 4] rfl) hG h
      · have h := ite_f c8 h
        refine lv_iconst (v := (1 : Int32)) hx hb dX9_lines_184 (by decide) ?_
        refine lv_goto (tgt := 189) hx hb dX9_lines_185 (by decide) ?_
        exact n189 k92 hk92 x1 x2 x3 (((32 : Int32) * x2) + x3) (1 : Int32) v_areKindsFound v_isMeasured v_posts v_lineP v_lineQ v_newRoad v_road _ _ _ (lv_sub hl [1, 2, 3, 4] rfl) hG h
  have n157 : ∀ (k92 : Int32 → Int32 → Int32 → Int32 → Int32 → Int32 → (Nat → Int32) → (Nat → Int32) → (Nat → Int32) → (Nat → Int32) → Option (Int32 × Int32 × Int32 × Int32 × (Nat → Int32) × (Nat → Int32) × (Nat → Int32) × (Nat → Int32))) (hk92 : ∀ (x1 : Int32) (x2 : Int32) (x3 : Int32) (v_areKindsFound : Int32) (v_isMeasured : Int32) (v_posts : Int32) (v_lineP : Nat → Int32) (v_lineQ : Nat → Int32) (v_newRoad : Nat → Int32) (v_road : Nat → Int32) (H : Heap) (locs : List Loc) (ls : Array Slot), lv_has ls 5 [(0, .ref (g.2.1 50)), (1, .int x1), (2, .int x2), (3, .int x3)] → GW g s (mkS σ [(3238, v_areKindsFound), (3212, v_isMeasured), (3203, v_posts)] [] [(72, v_lineP), (73, v_lineQ), (70, v_newRoad), (54, v_road)] []) H locs → k92 x1 x2 x3 v_areKindsFound v_isMeasured v_posts v_lineP v_lineQ v_newRoad v_road = some (r, w_areKindsFound, w_isMeasured, w_posts, w_lineP, w_lineQ, w_newRoad, w_road) → Wg p l e 2 45 s m args below meth c g (some (.int r)) (mkS σ [(3238, w_areKindsFound), (3212, w_isMeasured), (3203, w_posts)] [] [(72, w_lineP), (73, w_lineQ), (70, w_newRoad), (54, w_road)] []) H locs (F0 m 92 ls [])) (x1 : Int32) (x2 : Int32) (x3 : Int32) (v_areKindsFound : Int32) (v_isMeasured : Int32) (v_posts : Int32) (v_lineP : Nat → Int32) (v_lineQ : Nat → Int32) (v_newRoad : Nat → Int32) (v_road : Nat → Int32) (H : Heap) (locs : List Loc) (ls : Array Slot), lv_has ls 5 [(0, .ref (g.2.1 50)), (1, .int x1), (2, .int x2), (3, .int x3)] → GW g s (mkS σ [(3238, v_areKindsFound), (3212, v_isMeasured), (3203, v_posts)] [] [(72, v_lineP), (73, v_lineQ), (70, v_newRoad), (54, v_road)] []) H locs → M_lines_n157 k92 x1 x2 x3 v_areKindsFound v_isMeasured v_posts v_lineP v_lineQ v_newRoad v_road = some (r, w_areKindsFound, w_isMeasured, w_posts, w_lineP, w_lineQ, w_newRoad, w_road) → Wg p l e 2 45 s m args below meth c g (some (.int r)) (mkS σ [(3238, w_areKindsFound), (3212, w_isMeasured), (3203, w_posts)] [] [(72, w_lineP), (73, w_lineQ), (70, w_newRoad), (54, w_road)] []) H locs (F0 m 157 ls []) := by
    intro k92 hk92 x1 x2 x3 v_areKindsFound v_isMeasured v_posts v_lineP v_lineQ v_newRoad v_road H locs ls hl hG h
    unfold M_lines_n157 at h
    refine lv_iconst (v := (1 : Int32)) hx hb dX9_lines_157 (by decide) ?_
    refine lv_goto (tgt := 162) hx hb dX9_lines_158 (by decide) ?_
    exact n162 k92 hk92 x1 x2 x3 (1 : Int32) v_areKindsFound v_isMeasured v_posts v_lineP v_lineQ v_newRoad v_road _ _ _ (lv_sub hl [0, 1, 2, 3] rfl) hG h
  have n196 : ∀ (k85 : Int32 → Int32 → Int32 → Int32 → Int32 → (Nat → Int32) → (Nat → Int32) → (Nat → Int32) → (Nat → Int32) → Option (Int32 × Int32 × Int32 × Int32 × (Nat → Int32) × (Nat → Int32) × (Nat → Int32) × (Nat → Int32))) (hk85 : ∀ (x1 : Int32) (x2 : Int32) (v_areKindsFound : Int32) (v_isMeasured : Int32) (v_posts : Int32) (v_lineP : Nat → Int32) (v_lineQ : Nat → Int32) (v_newRoad : Nat → Int32) (v_road : Nat → Int32) (H : Heap) (locs : List Loc) (ls : Array Slot), lv_has ls 5 [(0, .ref (g.2.1 50)), (1, .int x1), (2, .int x2)] → GW g s (mkS σ [(3238, v_areKindsFound), (3212, v_isMeasured), (3203, v_posts)] [] [(72, v_lineP), (73, v_lineQ), (70, v_newRoad), (54, v_road)] []) H locs → k85 x1 x2 v_areKindsFound v_isMeasured v_posts v_lineP v_lineQ v_newRoad v_road = some (r, w_areKindsFound, w_isMeasured, w_posts, w_lineP, w_lineQ, w_newRoad, w_road) → Wg p l e 2 45 s m args below meth c g (some (.int r)) (mkS σ [(3238, w_areKindsFound), (3212, w_isMeasured), (3203, w_posts)] [] [(72, w_lineP), (73, w_lineQ), (70, w_newRoad), (54, w_road)] []) H locs (F0 m 85 ls [])) (x1 : Int32) (x2 : Int32) (v_areKindsFound : Int32) (v_isMeasured : Int32) (v_posts : Int32) (v_lineP : Nat → Int32) (v_lineQ : Nat → Int32) (v_newRoad : Nat → Int32) (v_road : Nat → Int32) (H : Heap) (locs : List Loc) (ls : Array Slot), lv_has ls 5 [(0, .ref (g.2.1 50)), (1, .int x1), (2, .int x2)] → GW g s (mkS σ [(3238, v_areKindsFound), (3212, v_isMeasured), (3203, v_posts)] [] [(72, v_lineP), (73, v_lineQ), (70, v_newRoad), (54, v_road)] []) H locs → M_lines_n196 k85 x1 x2 v_areKindsFound v_isMeasured v_posts v_lineP v_lineQ v_newRoad v_road = some (r, w_areKindsFound, w_isMeasured, w_posts, w_lineP, w_lineQ, w_newRoad, w_road) → Wg p l e 2 45 s m args below meth c g (some (.int r)) (mkS σ [(3238, w_areKindsFound), (3212, w_isMeasured), (3203, w_posts)] [] [(72, w_lineP), (73, w_lineQ), (70, w_newRoad), (54, w_road)] []) H locs (F0 m 196 ls []) := by
    intro k85 hk85 x1 x2 v_areKindsFound v_isMeasured v_posts v_lineP v_lineQ v_newRoad v_road H locs ls hl hG h
    unfold M_lines_n196 at h
    refine lv_iinc (v := (x2 + (1 : Int32))) (lv' := [(2, .int (x2 + (1 : Int32))), (0, .ref (g.2.1 50)), (1, .int x1)]) hx hb dX9_lines_196 hl (k := 2) rfl (congrArg (fun z => x2 + z) (by decide)) (Nat.le_of_ble_eq_true rfl) rfl (fun ls hl => ?_)
    refine lv_goto (tgt := 85) hx hb dX9_lines_199 (by decide) ?_
    exact hk85 x1 (x2 + (1 : Int32)) v_areKindsFound v_isMeasured v_posts v_lineP v_lineQ v_newRoad v_road _ _ _ (lv_sub hl [1, 2, 0] rfl) hG h
  have n92 : ∀ (k85 : Int32 → Int32 → Int32 → Int32 → Int32 → (Nat → Int32) → (Nat → Int32) → (Nat → Int32) → (Nat → Int32) → Option (Int32 × Int32 × Int32 × Int32 × (Nat → Int32) × (Nat → Int32) × (Nat → Int32) × (Nat → Int32))) (hk85 : ∀ (x1 : Int32) (x2 : Int32) (v_areKindsFound : Int32) (v_isMeasured : Int32) (v_posts : Int32) (v_lineP : Nat → Int32) (v_lineQ : Nat → Int32) (v_newRoad : Nat → Int32) (v_road : Nat → Int32) (H : Heap) (locs : List Loc) (ls : Array Slot), lv_has ls 5 [(0, .ref (g.2.1 50)), (1, .int x1), (2, .int x2)] → GW g s (mkS σ [(3238, v_areKindsFound), (3212, v_isMeasured), (3203, v_posts)] [] [(72, v_lineP), (73, v_lineQ), (70, v_newRoad), (54, v_road)] []) H locs → k85 x1 x2 v_areKindsFound v_isMeasured v_posts v_lineP v_lineQ v_newRoad v_road = some (r, w_areKindsFound, w_isMeasured, w_posts, w_lineP, w_lineQ, w_newRoad, w_road) → Wg p l e 2 45 s m args below meth c g (some (.int r)) (mkS σ [(3238, w_areKindsFound), (3212, w_isMeasured), (3203, w_posts)] [] [(72, w_lineP), (73, w_lineQ), (70, w_newRoad), (54, w_road)] []) H locs (F0 m 85 ls [])) (k92 : Int32 → Int32 → Int32 → Int32 → Int32 → Int32 → (Nat → Int32) → (Nat → Int32) → (Nat → Int32) → (Nat → Int32) → Option (Int32 × Int32 × Int32 × Int32 × (Nat → Int32) × (Nat → Int32) × (Nat → Int32) × (Nat → Int32))) (hk92 : ∀ (x1 : Int32) (x2 : Int32) (x3 : Int32) (v_areKindsFound : Int32) (v_isMeasured : Int32) (v_posts : Int32) (v_lineP : Nat → Int32) (v_lineQ : Nat → Int32) (v_newRoad : Nat → Int32) (v_road : Nat → Int32) (H : Heap) (locs : List Loc) (ls : Array Slot), lv_has ls 5 [(0, .ref (g.2.1 50)), (1, .int x1), (2, .int x2), (3, .int x3)] → GW g s (mkS σ [(3238, v_areKindsFound), (3212, v_isMeasured), (3203, v_posts)] [] [(72, v_lineP), (73, v_lineQ), (70, v_newRoad), (54, v_road)] []) H locs → k92 x1 x2 x3 v_areKindsFound v_isMeasured v_posts v_lineP v_lineQ v_newRoad v_road = some (r, w_areKindsFound, w_isMeasured, w_posts, w_lineP, w_lineQ, w_newRoad, w_road) → Wg p l e 2 45 s m args below meth c g (some (.int r)) (mkS σ [(3238, w_areKindsFound), (3212, w_isMeasured), (3203, w_posts)] [] [(72, w_lineP), (73, w_lineQ), (70, w_newRoad), (54, w_road)] []) H locs (F0 m 92 ls [])) (x1 : Int32) (x2 : Int32) (x3 : Int32) (v_areKindsFound : Int32) (v_isMeasured : Int32) (v_posts : Int32) (v_lineP : Nat → Int32) (v_lineQ : Nat → Int32) (v_newRoad : Nat → Int32) (v_road : Nat → Int32) (H : Heap) (locs : List Loc) (ls : Array Slot), lv_has ls 5 [(0, .ref (g.2.1 50)), (1, .int x1), (2, .int x2), (3, .int x3)] → GW g s (mkS σ [(3238, v_areKindsFound), (3212, v_isMeasured), (3203, v_posts)] [] [(72, v_lineP), (73, v_lineQ), (70, v_newRoad), (54, v_road)] []) H locs → M_lines_n92 k85 k92 x1 x2 x3 v_areKindsFound v_isMeasured v_posts v_lineP v_lineQ v_newRoad v_road = some (r, w_areKindsFound, w_isMeasured, w_posts, w_lineP, w_lineQ, w_newRoad, w_road) → Wg p l e 2 45 s m args below meth c g (some (.int r)) (mkS σ [(3238, w_areKindsFound), (3212, w_isMeasured), (3203, w_posts)] [] [(72, w_lineP), (73, w_lineQ), (70, w_newRoad), (54, w_road)] []) H locs (F0 m 92 ls []) := by
    intro k85 hk85 k92 hk92 x1 x2 x3 v_areKindsFound v_isMeasured v_posts v_lineP v_lineQ v_newRoad v_road H locs ls hl hG h
    unfold M_lines_n92 at h
    refine lv_iload_n hx hb dX9_lines_92 rfl (lv_at hl 3 rfl) ?_
    refine lv_iload_n hx hb dX9_lines_93 rfl (lv_at hl 1 rfl) ?_
    refine lv_icmp_ge (tgt := 196) hx hb dX9_lines_94 (by decide) (fun c9 => ?_) (fun c9 => ?_)
    · have h := ite_t c9 h
      exact n196 k85 hk85 x1 x2 v_areKindsFound v_isMeasured v_posts v_lineP v_lineQ v_newRoad v_road _ _ _ (lv_sub hl [0, 1, 2] rfl) hG h
    · have h := ite_f c9 h
      refine lv_aload_n hx hb dX9_lines_97 rfl (lv_at hl 0 rfl) ?_
      refine gx_get (v := .ref (g.2.1 72)) (C := RX9) (T := TX9) (N := 44) hx hb hts mc_X9 hown hK hG (ga_50 g _) rfl 31 (by decide) hw2 rfl rfl dX9_lines_98 ?_
      refine lv_iload_n hx hb dX9_lines_101 rfl (lv_at hl 2 rfl) ?_
      obtain ⟨hg10, h⟩ := gd_some h
      refine gx_iald (f := v_lineP) hx hb hK hG (ga_72 g _) hg10 dX9_lines_102 ?_
      refine lv_aload_n hx hb dX9_lines_103 rfl (lv_at hl 0 rfl) ?_
      refine gx_get (v := .ref (g.2.1 72)) (C := RX9) (T := TX9) (N := 44) hx hb hts mc_X9 hown hK hG (ga_50 g _) rfl 31 (by decide) hw2 rfl rfl dX9_lines_104 ?_
      refine lv_iload_n hx hb dX9_lines_107 rfl (lv_at hl 3 rfl) ?_
      obtain ⟨hg11, h⟩ := gd_some h
      refine gx_iald (f := v_lineP) hx hb hK hG (ga_72 g _) hg11 dX9_lines_108 ?_
      refine lv_icmp_eq (tgt := 157) hx hb dX9_lines_109 (by decide) (fun c12 => ?_) (fun c12 => ?_)
      · have h := ite_t c12 h
        exact n157 k92 hk92 x1 x2 x3 v_areKindsFound v_isMeasured v_posts v_lineP v_lineQ v_newRoad v_road _ _ _ (lv_sub hl [0, 1, 2, 3] rfl) hG h
      · have h := ite_f c12 h
        refine lv_aload_n hx hb dX9_lines_112 rfl (lv_at hl 0 rfl) ?_
        refine gx_get (v := .ref (g.2.1 72)) (C := RX9) (T := TX9) (N := 44) hx hb hts mc_X9 hown hK hG (ga_50 g _) rfl 31 (by decide) hw2 rfl rfl dX9_lines_113 ?_
        refine lv_iload_n hx hb dX9_lines_116 rfl (lv_at hl 2 rfl) ?_
        refine gx_iald (f := v_lineP) hx hb hK hG (ga_72 g _) hg10 dX9_lines_117 ?_
        refine lv_aload_n hx hb dX9_lines_118 rfl (lv_at hl 0 rfl) ?_
        refine gx_get (v := .ref (g.2.1 73)) (C := RX9) (T := TX9) (N := 44) hx hb hts mc_X9 hown hK hG (ga_50 g _) rfl 32 (by decide) hw3 rfl rfl dX9_lines_119 ?_
        refine lv_iload_n hx hb dX9_lines_122 rfl (lv_at hl 3 rfl) ?_
        refine gx_iald (f := v_lineQ) hx hb hK hG (ga_73 g _) hg11 dX9_lines_123 ?_
        refine lv_icmp_eq (tgt := 157) hx hb dX9_lines_124 (by decide) (fun c13 => ?_) (fun c13 => ?_)
        · have h := ite_t c13 h
          exact n157 k92 hk92 x1 x2 x3 v_areKindsFound v_isMeasured v_posts v_lineP v_lineQ v_newRoad v_road _ _ _ (lv_sub hl [0, 1, 2, 3] rfl) hG h
        · have h := ite_f c13 h
          refine lv_aload_n hx hb dX9_lines_127 rfl (lv_at hl 0 rfl) ?_
          refine gx_get (v := .ref (g.2.1 73)) (C := RX9) (T := TX9) (N := 44) hx hb hts mc_X9 hown hK hG (ga_50 g _) rfl 32 (by decide) hw3 rfl rfl dX9_lines_128 ?_
          refine lv_iload_n hx hb dX9_lines_131 rfl (lv_at hl 2 rfl) ?_
          refine gx_iald (f := v_lineQ) hx hb hK hG (ga_73 g _) hg10 dX9_lines_132 ?_
          refine lv_aload_n hx hb dX9_lines_133 rfl (lv_at hl 0 rfl) ?_
          refine gx_get (v := .ref (g.2.1 72)) (C := RX9) (T := TX9) (N := 44) hx hb hts mc_X9 hown hK hG (ga_50 g _) rfl 31 (by decide) hw2 rfl rfl dX9_lines_134 ?_
          refine lv_iload_n hx hb dX9_lines_137 rfl (lv_at hl 3 rfl) ?_
          refine gx_iald (f := v_lineP) hx hb hK hG (ga_72 g _) hg11 dX9_lines_138 ?_
          refine lv_icmp_eq (tgt := 157) hx hb dX9_lines_139 (by decide) (fun c14 => ?_) (fun c14 => ?_)
          · have h := ite_t c14 h
            exact n157 k92 hk92 x1 x2 x3 v_areKindsFound v_isMeasured v_posts v_lineP v_lineQ v_newRoad v_road _ _ _ (lv_sub hl [0, 1, 2, 3] rfl) hG h
          · have h := ite_f c14 h
            refine lv_aload_n hx hb dX9_lines_142 rfl (lv_at hl 0 rfl) ?_
            refine gx_get (v := .ref (g.2.1 73)) (C := RX9) (T := TX9) (N := 44) hx hb hts mc_X9 hown hK hG (ga_50 g _) rfl 32 (by decide) hw3 rfl rfl dX9_lines_143 ?_
            refine lv_iload_n hx hb dX9_lines_146 rfl (lv_at hl 2 rfl) ?_
            refine gx_iald (f := v_lineQ) hx hb hK hG (ga_73 g _) hg10 dX9_lines_147 ?_
            refine lv_aload_n hx hb dX9_lines_148 rfl (lv_at hl 0 rfl) ?_
            refine gx_get (v := .ref (g.2.1 73)) (C := RX9) (T := TX9) (N := 44) hx hb hts mc_X9 hown hK hG (ga_50 g _) rfl 32 (by decide) hw3 rfl rfl dX9_lines_149 ?_
            refine lv_iload_n hx hb dX9_lines_152 rfl (lv_at hl 3 rfl) ?_
            refine gx_iald (f := v_lineQ) hx hb hK hG (ga_73 g _) hg11 dX9_lines_153 ?_
            refine lv_icmp_ne (tgt := 161) hx hb dX9_lines_154 (by decide) (fun c15 => ?_) (fun c15 => ?_)
            · have h := ite_f c15 h
              refine lv_iconst (v := (0 : Int32)) hx hb dX9_lines_161 (by decide) ?_
              exact n162 k92 hk92 x1 x2 x3 (0 : Int32) v_areKindsFound v_isMeasured v_posts v_lineP v_lineQ v_newRoad v_road _ _ _ (lv_sub hl [0, 1, 2, 3] rfl) hG h
            · have h := ite_t c15 h
              exact n157 k92 hk92 x1 x2 x3 v_areKindsFound v_isMeasured v_posts v_lineP v_lineQ v_newRoad v_road _ _ _ (lv_sub hl [0, 1, 2, 3] rfl) hG h
  have l92 : ∀ (k85 : Int32 → Int32 → Int32 → Int32 → Int32 → (Nat → Int32) → (Nat → Int32) → (Nat → Int32) → (Nat → Int32) → Option (Int32 × Int32 × Int32 × Int32 × (Nat → Int32) × (Nat → Int32) × (Nat → Int32) × (Nat → Int32))) (hk85 : ∀ (x1 : Int32) (x2 : Int32) (v_areKindsFound : Int32) (v_isMeasured : Int32) (v_posts : Int32) (v_lineP : Nat → Int32) (v_lineQ : Nat → Int32) (v_newRoad : Nat → Int32) (v_road : Nat → Int32) (H : Heap) (locs : List Loc) (ls : Array Slot), lv_has ls 5 [(0, .ref (g.2.1 50)), (1, .int x1), (2, .int x2)] → GW g s (mkS σ [(3238, v_areKindsFound), (3212, v_isMeasured), (3203, v_posts)] [] [(72, v_lineP), (73, v_lineQ), (70, v_newRoad), (54, v_road)] []) H locs → k85 x1 x2 v_areKindsFound v_isMeasured v_posts v_lineP v_lineQ v_newRoad v_road = some (r, w_areKindsFound, w_isMeasured, w_posts, w_lineP, w_lineQ, w_newRoad, w_road) → Wg p l e 2 45 s m args below meth c g (some (.int r)) (mkS σ [(3238, w_areKindsFound), (3212, w_isMeasured), (3203, w_posts)] [] [(72, w_lineP), (73, w_lineQ), (70, w_newRoad), (54, w_road)] []) H locs (F0 m 85 ls [])) (F : Nat) (x1 : Int32) (x2 : Int32) (x3 : Int32) (v_areKindsFound : Int32) (v_isMeasured : Int32) (v_posts : Int32) (v_lineP : Nat → Int32) (v_lineQ : Nat → Int32) (v_newRoad : Nat → Int32) (v_road : Nat → Int32) (H : Heap) (locs : List Loc) (ls : Array Slot), lv_has ls 5 [(0, .ref (g.2.1 50)), (1, .int x1), (2, .int x2), (3, .int x3)] → GW g s (mkS σ [(3238, v_areKindsFound), (3212, v_isMeasured), (3203, v_posts)] [] [(72, v_lineP), (73, v_lineQ), (70, v_newRoad), (54, v_road)] []) H locs → M_lines_l92 k85 F x1 x2 x3 v_areKindsFound v_isMeasured v_posts v_lineP v_lineQ v_newRoad v_road = some (r, w_areKindsFound, w_isMeasured, w_posts, w_lineP, w_lineQ, w_newRoad, w_road) → Wg p l e 2 45 s m args below meth c g (some (.int r)) (mkS σ [(3238, w_areKindsFound), (3212, w_isMeasured), (3203, w_posts)] [] [(72, w_lineP), (73, w_lineQ), (70, w_newRoad), (54, w_road)] []) H locs (F0 m 92 ls []) := by
    intro k85 hk85 F
    induction F with
    | zero => intro x1 x2 x3 v_areKindsFound v_isMeasured v_posts v_lineP v_lineQ v_newRoad v_road H locs ls hl hG h; exact no_some h
    | succ F ih => intro x1 x2 x3 v_areKindsFound v_isMeasured v_posts v_lineP v_lineQ v_newRoad v_road H locs ls hl hG h; exact n92 k85 hk85 (fun x1 x2 x3 v_areKindsFound v_isMeasured v_posts v_lineP v_lineQ v_newRoad v_road => M_lines_l92 k85 F x1 x2 x3 v_areKindsFound v_isMeasured v_posts v_lineP v_lineQ v_newRoad v_road) ih x1 x2 x3 v_areKindsFound v_isMeasured v_posts v_lineP v_lineQ v_newRoad v_road H locs ls hl hG h
  have n202 : ∀ (x1 : Int32) (v_areKindsFound : Int32) (v_isMeasured : Int32) (v_posts : Int32) (v_lineP : Nat → Int32) (v_lineQ : Nat → Int32) (v_newRoad : Nat → Int32) (v_road : Nat → Int32) (H : Heap) (locs : List Loc) (ls : Array Slot), lv_has ls 5 [(0, .ref (g.2.1 50)), (1, .int x1)] → GW g s (mkS σ [(3238, v_areKindsFound), (3212, v_isMeasured), (3203, v_posts)] [] [(72, v_lineP), (73, v_lineQ), (70, v_newRoad), (54, v_road)] []) H locs → M_lines_n202 x1 v_areKindsFound v_isMeasured v_posts v_lineP v_lineQ v_newRoad v_road = some (r, w_areKindsFound, w_isMeasured, w_posts, w_lineP, w_lineQ, w_newRoad, w_road) → Wg p l e 2 45 s m args below meth c g (some (.int r)) (mkS σ [(3238, w_areKindsFound), (3212, w_isMeasured), (3203, w_posts)] [] [(72, w_lineP), (73, w_lineQ), (70, w_newRoad), (54, w_road)] []) H locs (F0 m 202 ls []) := by
    intro x1 v_areKindsFound v_isMeasured v_posts v_lineP v_lineQ v_newRoad v_road H locs ls hl hG h
    unfold M_lines_n202 at h
    refine lv_aload_n hx hb dX9_lines_202 rfl (lv_at hl 0 rfl) ?_
    refine lv_iload_n hx hb dX9_lines_203 rfl (lv_at hl 1 rfl) ?_
    obtain ⟨z16, hc17, h⟩ := bnd_some h
    refine gx_cV (σ' := (mkS σ [(3238, z16.1), (3212, z16.2.1), (3203, z16.2.2.1)] [] [(72, v_lineP), (73, v_lineQ), (70, v_newRoad), (54, z16.2.2.2)] [])) (r := none) (rest := []) (As := [.int x1]) hS9 (c_M_become l g (mkS σ [(3238, v_areKindsFound), (3212, v_isMeasured), (3203, v_posts)] [] [(72, v_lineP), (73, v_lineQ), (70, v_newRoad), (54, v_road)] []) x1 z16.1 z16.2.1 z16.2.2.1 z16.2.2.2 hc17) (mk_mk rfl rfl rfl rfl) (cwV 1 hts (gz_V mw_6_42 mw_6_44 ms_5_1 mw_1_11 mw_6_45) rfl rfl rfl hdV_X9_become ⟨Nat.le_of_ble_eq_true rfl, Nat.le_of_ble_eq_true rfl⟩) hK hG (ga_50 g _) rfl rfl rfl hl.1 rfl (Nat.le_of_ble_eq_true rfl) dX9_lines_204 (fun H locs hG => ?_)
    refine W.eq (g2 := F0 m 207 ls []) rfl ?_
    refine lv_iload_n hx hb dX9_lines_207 rfl (lv_at hl 1 rfl) ?_
    cases h
    exact gx_iret hx hb hr hlocks hG dX9_lines_208
  have n85 : ∀ (k85 : Int32 → Int32 → Int32 → Int32 → Int32 → (Nat → Int32) → (Nat → Int32) → (Nat → Int32) → (Nat → Int32) → Option (Int32 × Int32 × Int32 × Int32 × (Nat → Int32) × (Nat → Int32) × (Nat → Int32) × (Nat → Int32))) (hk85 : ∀ (x1 : Int32) (x2 : Int32) (v_areKindsFound : Int32) (v_isMeasured : Int32) (v_posts : Int32) (v_lineP : Nat → Int32) (v_lineQ : Nat → Int32) (v_newRoad : Nat → Int32) (v_road : Nat → Int32) (H : Heap) (locs : List Loc) (ls : Array Slot), lv_has ls 5 [(0, .ref (g.2.1 50)), (1, .int x1), (2, .int x2)] → GW g s (mkS σ [(3238, v_areKindsFound), (3212, v_isMeasured), (3203, v_posts)] [] [(72, v_lineP), (73, v_lineQ), (70, v_newRoad), (54, v_road)] []) H locs → k85 x1 x2 v_areKindsFound v_isMeasured v_posts v_lineP v_lineQ v_newRoad v_road = some (r, w_areKindsFound, w_isMeasured, w_posts, w_lineP, w_lineQ, w_newRoad, w_road) → Wg p l e 2 45 s m args below meth c g (some (.int r)) (mkS σ [(3238, w_areKindsFound), (3212, w_isMeasured), (3203, w_posts)] [] [(72, w_lineP), (73, w_lineQ), (70, w_newRoad), (54, w_road)] []) H locs (F0 m 85 ls [])) (x1 : Int32) (x2 : Int32) (v_areKindsFound : Int32) (v_isMeasured : Int32) (v_posts : Int32) (v_lineP : Nat → Int32) (v_lineQ : Nat → Int32) (v_newRoad : Nat → Int32) (v_road : Nat → Int32) (H : Heap) (locs : List Loc) (ls : Array Slot), lv_has ls 5 [(0, .ref (g.2.1 50)), (1, .int x1), (2, .int x2)] → GW g s (mkS σ [(3238, v_areKindsFound), (3212, v_isMeasured), (3203, v_posts)] [] [(72, v_lineP), (73, v_lineQ), (70, v_newRoad), (54, v_road)] []) H locs → M_lines_n85 k85 x1 x2 v_areKindsFound v_isMeasured v_posts v_lineP v_lineQ v_newRoad v_road = some (r, w_areKindsFound, w_isMeasured, w_posts, w_lineP, w_lineQ, w_newRoad, w_road) → Wg p l e 2 45 s m args below meth c g (some (.int r)) (mkS σ [(3238, w_areKindsFound), (3212, w_isMeasured), (3203, w_posts)] [] [(72, w_lineP), (73, w_lineQ), (70, w_newRoad), (54, w_road)] []) H locs (F0 m 85 ls []) := by
    intro k85 hk85 x1 x2 v_areKindsFound v_isMeasured v_posts v_lineP v_lineQ v_newRoad v_road H locs ls hl hG h
    unfold M_lines_n85 at h
    refine lv_iload_n hx hb dX9_lines_85 rfl (lv_at hl 2 rfl) ?_
    refine lv_iload_n hx hb dX9_lines_86 rfl (lv_at hl 1 rfl) ?_
    refine lv_icmp_ge (tgt := 202) hx hb dX9_lines_87 (by decide) (fun c18 => ?_) (fun c18 => ?_)
    · have h := ite_t c18 h
      exact n202 x1 v_areKindsFound v_isMeasured v_posts v_lineP v_lineQ v_newRoad v_road _ _ _ (lv_sub hl [0, 1] rfl) hG h
    · have h := ite_f c18 h
      refine lv_iconst (v := (0 : Int32)) hx hb dX9_lines_90 (by decide) ?_
      refine lv_istore_n (lv' := [(3, .int (0 : Int32)), (0, .ref (g.2.1 50)), (1, .int x1), (2, .int x2)]) hx hb dX9_lines_91 rfl hl (Nat.le_of_ble_eq_true rfl) rfl (fun ls hl => ?_)
      exact l92 k85 hk85 FUEL x1 x2 (0 : Int32) v_areKindsFound v_isMeasured v_posts v_lineP v_lineQ v_newRoad v_road _ _ _ (lv_sub hl [1, 2, 3, 0] rfl) hG h
  have l85 : ∀  (F : Nat) (x1 : Int32) (x2 : Int32) (v_areKindsFound : Int32) (v_isMeasured : Int32) (v_posts : Int32) (v_lineP : Nat → Int32) (v_lineQ : Nat → Int32) (v_newRoad : Nat → Int32) (v_road : Nat → Int32) (H : Heap) (locs : List Loc) (ls : Array Slot), lv_has ls 5 [(0, .ref (g.2.1 50)), (1, .int x1), (2, .int x2)] → GW g s (mkS σ [(3238, v_areKindsFound), (3212, v_isMeasured), (3203, v_posts)] [] [(72, v_lineP), (73, v_lineQ), (70, v_newRoad), (54, v_road)] []) H locs → M_lines_l85 F x1 x2 v_areKindsFound v_isMeasured v_posts v_lineP v_lineQ v_newRoad v_road = some (r, w_areKindsFound, w_isMeasured, w_posts, w_lineP, w_lineQ, w_newRoad, w_road) → Wg p l e 2 45 s m args below meth c g (some (.int r)) (mkS σ [(3238, w_areKindsFound), (3212, w_isMeasured), (3203, w_posts)] [] [(72, w_lineP), (73, w_lineQ), (70, w_newRoad), (54, w_road)] []) H locs (F0 m 85 ls []) := by
    intro F
    induction F with
    | zero => intro x1 x2 v_areKindsFound v_isMeasured v_posts v_lineP v_lineQ v_newRoad v_road H locs ls hl hG h; exact no_some h
    | succ F ih => intro x1 x2 v_areKindsFound v_isMeasured v_posts v_lineP v_lineQ v_newRoad v_road H locs ls hl hG h; exact n85 (fun x1 x2 v_areKindsFound v_isMeasured v_posts v_lineP v_lineQ v_newRoad v_road => M_lines_l85 F x1 x2 v_areKindsFound v_isMeasured v_posts v_lineP v_lineQ v_newRoad v_road) ih x1 x2 v_areKindsFound v_isMeasured v_posts v_lineP v_lineQ v_newRoad v_road H locs ls hl hG h
  have n79 : ∀ (x1 : Int32) (v_areKindsFound : Int32) (v_isMeasured : Int32) (v_posts : Int32) (v_lineP : Nat → Int32) (v_lineQ : Nat → Int32) (v_newRoad : Nat → Int32) (v_road : Nat → Int32) (H : Heap) (locs : List Loc) (ls : Array Slot), lv_has ls 5 [(0, .ref (g.2.1 50)), (1, .int x1)] → GW g s (mkS σ [(3238, v_areKindsFound), (3212, v_isMeasured), (3203, v_posts)] [] [(72, v_lineP), (73, v_lineQ), (70, v_newRoad), (54, v_road)] []) H locs → M_lines_n79 x1 v_areKindsFound v_isMeasured v_posts v_lineP v_lineQ v_newRoad v_road = some (r, w_areKindsFound, w_isMeasured, w_posts, w_lineP, w_lineQ, w_newRoad, w_road) → Wg p l e 2 45 s m args below meth c g (some (.int r)) (mkS σ [(3238, w_areKindsFound), (3212, w_isMeasured), (3203, w_posts)] [] [(72, w_lineP), (73, w_lineQ), (70, w_newRoad), (54, w_road)] []) H locs (F0 m 79 ls []) := by
    intro x1 v_areKindsFound v_isMeasured v_posts v_lineP v_lineQ v_newRoad v_road H locs ls hl hG h
    unfold M_lines_n79 at h
    refine lv_aload_n hx hb dX9_lines_79 rfl (lv_at hl 0 rfl) ?_
    obtain ⟨z19, hc20, h⟩ := bnd_some h
    refine gx_cV (σ' := (mkS σ [(3238, v_areKindsFound), (3212, v_isMeasured), (3203, v_posts)] [] [(72, v_lineP), (73, v_lineQ), (70, z19), (54, v_road)] [])) (r := none) (rest := []) (As := []) hS9 (c_M_clearNew l g (mkS σ [(3238, v_areKindsFound), (3212, v_isMeasured), (3203, v_posts)] [] [(72, v_lineP), (73, v_lineQ), (70, v_newRoad), (54, v_road)] []) z19 hc20) (mk_mk rfl rfl rfl rfl) (cwV 0 hts (gz_V mw_6_38 mw_6_40 ms_5_0 mw_1_11 mw_6_41) rfl rfl rfl hdV_X9_clearNew ⟨Nat.le_of_ble_eq_true rfl, Nat.le_of_ble_eq_true rfl⟩) hK hG (ga_50 g _) rfl rfl rfl hl.1 rfl (Nat.le_of_ble_eq_true rfl) dX9_lines_80 (fun H locs hG => ?_)
    refine W.eq (g2 := F0 m 83 ls []) rfl ?_
    refine lv_iconst (v := (0 : Int32)) hx hb dX9_lines_83 (by decide) ?_
    refine lv_istore_n (lv' := [(2, .int (0 : Int32)), (0, .ref (g.2.1 50)), (1, .int x1)]) hx hb dX9_lines_84 rfl hl (Nat.le_of_ble_eq_true rfl) rfl (fun ls hl => ?_)
    exact l85 FUEL x1 (0 : Int32) v_areKindsFound v_isMeasured v_posts v_lineP v_lineQ z19 v_road _ _ _ (lv_sub hl [1, 2, 0] rfl) hG h
  have n16 : ∀ (k16 : Int32 → Int32 → Int32 → Int32 → Int32 → (Nat → Int32) → (Nat → Int32) → (Nat → Int32) → (Nat → Int32) → Option (Int32 × Int32 × Int32 × Int32 × (Nat → Int32) × (Nat → Int32) × (Nat → Int32) × (Nat → Int32))) (hk16 : ∀ (x1 : Int32) (x2 : Int32) (v_areKindsFound : Int32) (v_isMeasured : Int32) (v_posts : Int32) (v_lineP : Nat → Int32) (v_lineQ : Nat → Int32) (v_newRoad : Nat → Int32) (v_road : Nat → Int32) (H : Heap) (locs : List Loc) (ls : Array Slot), lv_has ls 5 [(0, .ref (g.2.1 50)), (1, .int x1), (2, .int x2)] → GW g s (mkS σ [(3238, v_areKindsFound), (3212, v_isMeasured), (3203, v_posts)] [] [(72, v_lineP), (73, v_lineQ), (70, v_newRoad), (54, v_road)] []) H locs → k16 x1 x2 v_areKindsFound v_isMeasured v_posts v_lineP v_lineQ v_newRoad v_road = some (r, w_areKindsFound, w_isMeasured, w_posts, w_lineP, w_lineQ, w_newRoad, w_road) → Wg p l e 2 45 s m args below meth c g (some (.int r)) (mkS σ [(3238, w_areKindsFound), (3212, w_isMeasured), (3203, w_posts)] [] [(72, w_lineP), (73, w_lineQ), (70, w_newRoad), (54, w_road)] []) H locs (F0 m 16 ls [])) (x1 : Int32) (x2 : Int32) (v_areKindsFound : Int32) (v_isMeasured : Int32) (v_posts : Int32) (v_lineP : Nat → Int32) (v_lineQ : Nat → Int32) (v_newRoad : Nat → Int32) (v_road : Nat → Int32) (H : Heap) (locs : List Loc) (ls : Array Slot), lv_has ls 5 [(0, .ref (g.2.1 50)), (1, .int x1), (2, .int x2)] → GW g s (mkS σ [(3238, v_areKindsFound), (3212, v_isMeasured), (3203, v_posts)] [] [(72, v_lineP), (73, v_lineQ), (70, v_newRoad), (54, v_road)] []) H locs → M_lines_n16 k16 x1 x2 v_areKindsFound v_isMeasured v_posts v_lineP v_lineQ v_newRoad v_road = some (r, w_areKindsFound, w_isMeasured, w_posts, w_lineP, w_lineQ, w_newRoad, w_road) → Wg p l e 2 45 s m args below meth c g (some (.int r)) (mkS σ [(3238, w_areKindsFound), (3212, w_isMeasured), (3203, w_posts)] [] [(72, w_lineP), (73, w_lineQ), (70, w_newRoad), (54, w_road)] []) H locs (F0 m 16 ls []) := by
    intro k16 hk16 x1 x2 v_areKindsFound v_isMeasured v_posts v_lineP v_lineQ v_newRoad v_road H locs ls hl hG h
    unfold M_lines_n16 at h
    refine lv_iload_n hx hb dX9_lines_16 rfl (lv_at hl 2 rfl) ?_
    refine lv_aload_n hx hb dX9_lines_17 rfl (lv_at hl 0 rfl) ?_
    refine gx_get (v := .int v_posts) (C := RX9) (T := TX9) (N := 44) hx hb hts mc_X9 hown hK hG (ga_50 g _) rfl 3 (by decide) hw0 rfl rfl dX9_lines_18 ?_
    refine lv_icmp_ge (tgt := 79) hx hb dX9_lines_21 (by decide) (fun c21 => ?_) (fun c21 => ?_)
    · have h := ite_t c21 h
      exact n79 x1 v_areKindsFound v_isMeasured v_posts v_lineP v_lineQ v_newRoad v_road _ _ _ (lv_sub hl [0, 1] rfl) hG h
    · have h := ite_f c21 h
      refine lv_iload_n hx hb dX9_lines_24 rfl (lv_at hl 2 rfl) ?_
      refine lv_iconst (v := (1 : Int32)) hx hb dX9_lines_25 (by decide) ?_
      refine lv_iadd hx hb dX9_lines_26 ?_
      refine lv_istore_n (lv' := [(3, .int (x2 + (1 : Int32))), (0, .ref (g.2.1 50)), (1, .int x1), (2, .int x2)]) hx hb dX9_lines_27 rfl hl (Nat.le_of_ble_eq_true rfl) rfl (fun ls hl => ?_)
      exact l28 k16 hk16 FUEL x1 x2 (x2 + (1 : Int32)) v_areKindsFound v_isMeasured v_posts v_lineP v_lineQ v_newRoad v_road _ _ _ (lv_sub hl [1, 2, 3, 0] rfl) hG h
  have l16 : ∀  (F : Nat) (x1 : Int32) (x2 : Int32) (v_areKindsFound : Int32) (v_isMeasured : Int32) (v_posts : Int32) (v_lineP : Nat → Int32) (v_lineQ : Nat → Int32) (v_newRoad : Nat → Int32) (v_road : Nat → Int32) (H : Heap) (locs : List Loc) (ls : Array Slot), lv_has ls 5 [(0, .ref (g.2.1 50)), (1, .int x1), (2, .int x2)] → GW g s (mkS σ [(3238, v_areKindsFound), (3212, v_isMeasured), (3203, v_posts)] [] [(72, v_lineP), (73, v_lineQ), (70, v_newRoad), (54, v_road)] []) H locs → M_lines_l16 F x1 x2 v_areKindsFound v_isMeasured v_posts v_lineP v_lineQ v_newRoad v_road = some (r, w_areKindsFound, w_isMeasured, w_posts, w_lineP, w_lineQ, w_newRoad, w_road) → Wg p l e 2 45 s m args below meth c g (some (.int r)) (mkS σ [(3238, w_areKindsFound), (3212, w_isMeasured), (3203, w_posts)] [] [(72, w_lineP), (73, w_lineQ), (70, w_newRoad), (54, w_road)] []) H locs (F0 m 16 ls []) := by
    intro F
    induction F with
    | zero => intro x1 x2 v_areKindsFound v_isMeasured v_posts v_lineP v_lineQ v_newRoad v_road H locs ls hl hG h; exact no_some h
    | succ F ih => intro x1 x2 v_areKindsFound v_isMeasured v_posts v_lineP v_lineQ v_newRoad v_road H locs ls hl hG h; exact n16 (fun x1 x2 v_areKindsFound v_isMeasured v_posts v_lineP v_lineQ v_newRoad v_road => M_lines_l16 F x1 x2 v_areKindsFound v_isMeasured v_posts v_lineP v_lineQ v_newRoad v_road) ih x1 x2 v_areKindsFound v_isMeasured v_posts v_lineP v_lineQ v_newRoad v_road H locs ls hl hG h
  refine lv_aload_n hx hb dX9_lines_0 rfl (lv_at hl 0 rfl) ?_
  obtain ⟨z22, hc23, h⟩ := bnd_some h
  refine gx_cV (σ' := (mkS σ [(3238, (σ.1 3238)), (3212, (σ.1 3212)), (3203, (σ.1 3203))] [] [(72, (σ.2.2.1 72)), (73, (σ.2.2.1 73)), (70, (σ.2.2.1 70)), (54, (σ.2.2.1 54))] [])) (r := (some (.int z22))) (rest := []) (As := []) hS9 (c_M_roads l g (mkS σ [(3238, (σ.1 3238)), (3212, (σ.1 3212)), (3203, (σ.1 3203))] [] [(72, (σ.2.2.1 72)), (73, (σ.2.2.1 73)), (70, (σ.2.2.1 70)), (54, (σ.2.2.1 54))] []) z22 hc23) rfl (cwV 0 hts (gz_V mw_5_129 mw_5_131 ms_3_11 mw_1_11 mw_5_132) rfl rfl rfl hdV_X9_roads ⟨Nat.le_of_ble_eq_true rfl, Nat.le_of_ble_eq_true rfl⟩) hK hG (ga_50 g _) rfl rfl rfl hl.1 rfl (Nat.le_of_ble_eq_true rfl) dX9_lines_1 (fun H locs hG => ?_)
  refine W.eq (g2 := F0 m 4 ls [.int z22]) rfl ?_
  refine lv_bipush (v := (32 : Int32)) hx hb dX9_lines_4 (by decide) ?_
  refine lv_icmp_le (tgt := 12) hx hb dX9_lines_6 (by decide) (fun c24 => ?_) (fun c24 => ?_)
  · have h := ite_t c24 h
    refine lv_iconst (v := (0 : Int32)) hx hb dX9_lines_12 (by decide) ?_
    refine lv_istore_n (lv' := [(1, .int (0 : Int32)), (0, .ref (g.2.1 50))]) hx hb dX9_lines_13 rfl hl (Nat.le_of_ble_eq_true rfl) rfl (fun ls hl => ?_)
    refine lv_iconst (v := (0 : Int32)) hx hb dX9_lines_14 (by decide) ?_
    refine lv_istore_n (lv' := [(2, .int (0 : Int32)), (1, .int (0 : Int32)), (0, .ref (g.2.1 50))]) hx hb dX9_lines_15 rfl hl (Nat.le_of_ble_eq_true rfl) rfl (fun ls hl => ?_)
    exact l16 FUEL (0 : Int32) (0 : Int32) (σ.1 3238) (σ.1 3212) (σ.1 3203) (σ.2.2.1 72) (σ.2.2.1 73) (σ.2.2.1 70) (σ.2.2.1 54) _ _ _ (lv_sub hl [2, 1, 0] rfl) hG h
  · have h := ite_f c24 h
    refine lv_bipush (v := (-2 : Int32)) hx hb dX9_lines_9 (by decide) ?_
    cases h
    exact gx_iret hx hb hr hlocks hG dX9_lines_11

