set_option maxHeartbeats 4000000 in
set_option maxRecDepth 100000 in
theorem c_M_areAlike (l : Launch) (g : GC) (σ : St) (x1 : Int32) (x2 : Int32) (r : Int32) (h : M_areAlike x1 x2 (σ.1 3203) (σ.2.2.1 78) (σ.2.2.1 80) = some r) : Cn l g yX9_areAlike wsX9_areAlike 0 0 [.ref (g.2.1 50), .int x1, .int x2] σ (some (.int r)) σ := by
  unfold Cn
  refine Met.ofW (cc := cX9_areAlike) (maxL := 5) (ret := (some .boolean)) (by decide) rfl ?_
  intro p e s m args below meth c s₁ B hml hv
  obtain ⟨hargs, hP0, hK⟩ := hv
  have hx := B.exec
  have hb := B.bytes
  have hr := B.returns
  have hts := atoms_spec (ws := wsX9_areAlike) B.pre
  have hown : s.vm.findClass RX9 = some m.cls := findClass_of_methodNamed B.named
  have hlocks := B.notSynchronized
  have hinX9 : ∀ w ∈ wsX90, w ∈ wsX9_areAlike := fun w h => List.mem_cons_of_mem _ (List.mem_append_right _ (h))
  have hw0 := hts (.fieldLink RX9 116 "LikeNetsModel" "posts" "I") (List.mem_of_getElem? (i := 2) rfl)
  have hw1 := hts (.fieldLink RX9 104 "LikeNetsModel" "signs" "[I") (List.mem_of_getElem? (i := 3) rfl)
  have hw2 := hts (.fieldLink RX9 97 "LikeNetsModel" "kindOf" "[I") (List.mem_of_getElem? (i := 1) rfl)
  have hf9 : entryFrame m args 5 = _ := (congrArg (fun a => entryFrame m a 5) hargs).trans (lg_entry_eq m [.ref (g.2.1 50), .int x1, .int x2] 5)
  show Wg p l e 0 0 s m args below meth c g (some (.int r)) σ s.heap [] (entryFrame m args 5)
  rw [hf9]
  have hl := lv_entry ([.ref (g.2.1 50), .int x1, .int x2]) (n := 5) (Nat.le_of_ble_eq_true rfl)
  generalize (lg_sl ([.ref (g.2.1 50), .int x1, .int x2]) ++ List.replicate (5 - (lg_sl ([.ref (g.2.1 50), .int x1, .int x2])).length) Slot.unset).toArray = ls at hl ⊢
  have hl : lv_has ls 5 [(0, .ref (g.2.1 50)), (1, .int x1), (2, .int x2)] := hl
  have hG : GW g s σ s.heap [] := ⟨hP0, va_S.rf⟩
  unfold M_areAlike at h
  have n69 : ∀ (k24 : Int32 → Int32 → Int32 → Int32 → Option (Int32)) (hk24 : ∀ (x1 : Int32) (x2 : Int32) (x3 : Int32) (x4 : Int32) (H : Heap) (locs : List Loc) (ls : Array Slot), lv_has ls 5 [(0, .ref (g.2.1 50)), (1, .int x1), (2, .int x2), (3, .int x3), (4, .int x4)] → GW g s σ H locs → k24 x1 x2 x3 x4 = some r → Wg p l e 0 0 s m args below meth c g (some (.int r)) σ H locs (F0 m 24 ls [])) (x1 : Int32) (x2 : Int32) (x4 : Int32) (t0 : Int32) (H : Heap) (locs : List Loc) (ls : Array Slot), lv_has ls 5 [(0, .ref (g.2.1 50)), (1, .int x1), (2, .int x2), (4, .int x4)] → GW g s σ H locs → M_areAlike_n69 k24 x1 x2 x4 t0 = some r → Wg p l e 0 0 s m args below meth c g (some (.int r)) σ H locs (F0 m 69 ls [.int t0]) := by
    intro k24 hk24 x1 x2 x4 t0 H locs ls hl hG h
    unfold M_areAlike_n69 at h
    refine lv_istore_n (lv' := [(3, .int t0), (0, .ref (g.2.1 50)), (1, .int x1), (2, .int x2), (4, .int x4)]) hx hb dX9_areAlike_69 rfl hl (Nat.le_of_ble_eq_true rfl) rfl (fun ls hl => ?_)
    refine lv_iinc (v := (x4 + (1 : Int32))) (lv' := [(4, .int (x4 + (1 : Int32))), (3, .int t0), (0, .ref (g.2.1 50)), (1, .int x1), (2, .int x2)]) hx hb dX9_areAlike_70 hl (k := 4) rfl (congrArg (fun z => x4 + z) (by decide)) (Nat.le_of_ble_eq_true rfl) rfl (fun ls hl => ?_)
    refine lv_goto (tgt := 24) hx hb dX9_areAlike_73 (by decide) ?_
    exact hk24 x1 x2 t0 (x4 + (1 : Int32)) _ _ _ (lv_sub hl [2, 3, 4, 1, 0] rfl) hG h
  have n76 : ∀ (x3 : Int32) (H : Heap) (locs : List Loc) (ls : Array Slot), lv_has ls 5 [(3, .int x3)] → GW g s σ H locs → M_areAlike_n76 x3 = some r → Wg p l e 0 0 s m args below meth c g (some (.int r)) σ H locs (F0 m 76 ls []) := by
    intro x3 H locs ls hl hG h
    unfold M_areAlike_n76 at h
    refine lv_iload_n hx hb dX9_areAlike_76 rfl (lv_at hl 0 rfl) ?_
    obtain ⟨hg1, h⟩ := gd_some h
    cases h
    exact gx_zret hx hb hr hlocks hg1 hG dX9_areAlike_77
  have n24 : ∀ (k24 : Int32 → Int32 → Int32 → Int32 → Option (Int32)) (hk24 : ∀ (x1 : Int32) (x2 : Int32) (x3 : Int32) (x4 : Int32) (H : Heap) (locs : List Loc) (ls : Array Slot), lv_has ls 5 [(0, .ref (g.2.1 50)), (1, .int x1), (2, .int x2), (3, .int x3), (4, .int x4)] → GW g s σ H locs → k24 x1 x2 x3 x4 = some r → Wg p l e 0 0 s m args below meth c g (some (.int r)) σ H locs (F0 m 24 ls [])) (x1 : Int32) (x2 : Int32) (x3 : Int32) (x4 : Int32) (H : Heap) (locs : List Loc) (ls : Array Slot), lv_has ls 5 [(0, .ref (g.2.1 50)), (1, .int x1), (2, .int x2), (3, .int x3), (4, .int x4)] → GW g s σ H locs → M_areAlike_n24 k24 (σ.1 3203) (σ.2.2.1 80) x1 x2 x3 x4 = some r → Wg p l e 0 0 s m args below meth c g (some (.int r)) σ H locs (F0 m 24 ls []) := by
    intro k24 hk24 x1 x2 x3 x4 H locs ls hl hG h
    unfold M_areAlike_n24 at h
    refine lv_iload hx hb dX9_areAlike_24 (lv_at hl 4 rfl) ?_
    refine lv_aload_n hx hb dX9_areAlike_26 rfl (lv_at hl 0 rfl) ?_
    refine gx_get (v := .int (σ.1 3203)) (C := RX9) (T := TX9) (N := 44) hx hb hts hinX9 hown hK hG (ga_50 g _) rfl 3 (by decide) hw0 rfl rfl dX9_areAlike_27 ?_
    refine lv_icmp_ge (tgt := 76) hx hb dX9_areAlike_30 (by decide) (fun c2 => ?_) (fun c2 => ?_)
    · have h := ite_t c2 h
      exact n76 x3 _ _ _ (lv_sub hl [3] rfl) hG h
    · have h := ite_f c2 h
      refine lv_iload_n hx hb dX9_areAlike_33 rfl (lv_at hl 3 rfl) ?_
      refine lv_if_eq (tgt := 76) hx hb dX9_areAlike_34 (by decide) (fun c3 => ?_) (fun c3 => ?_)
      · have h := ite_t c3 h
        exact n76 x3 _ _ _ (lv_sub hl [3] rfl) hG h
      · have h := ite_f c3 h
        refine lv_aload_n hx hb dX9_areAlike_37 rfl (lv_at hl 0 rfl) ?_
        refine gx_get (v := .ref (g.2.1 80)) (C := RX9) (T := TX9) (N := 44) hx hb hts hinX9 hown hK hG (ga_50 g _) rfl 41 (by decide) hw1 rfl rfl dX9_areAlike_38 ?_
        refine lv_bipush (v := (32 : Int32)) hx hb dX9_areAlike_41 (by decide) ?_
        refine lv_iload_n hx hb dX9_areAlike_43 rfl (lv_at hl 1 rfl) ?_
        refine lv_imul hx hb dX9_areAlike_44 ?_
        refine lv_iload hx hb dX9_areAlike_45 (lv_at hl 4 rfl) ?_
        refine lv_iadd hx hb dX9_areAlike_47 ?_
        obtain ⟨hg4, h⟩ := gd_some h
        refine gx_iald (f := (σ.2.2.1 80)) hx hb hK hG (ga_80 g _) hg4 dX9_areAlike_48 ?_
        refine lv_aload_n hx hb dX9_areAlike_49 rfl (lv_at hl 0 rfl) ?_
        refine gx_get (v := .ref (g.2.1 80)) (C := RX9) (T := TX9) (N := 44) hx hb hts hinX9 hown hK hG (ga_50 g _) rfl 41 (by decide) hw1 rfl rfl dX9_areAlike_50 ?_
        refine lv_bipush (v := (32 : Int32)) hx hb dX9_areAlike_53 (by decide) ?_
        refine lv_iload_n hx hb dX9_areAlike_55 rfl (lv_at hl 2 rfl) ?_
        refine lv_imul hx hb dX9_areAlike_56 ?_
        refine lv_iload hx hb dX9_areAlike_57 (lv_at hl 4 rfl) ?_
        refine lv_iadd hx hb dX9_areAlike_59 ?_
        obtain ⟨hg5, h⟩ := gd_some h
        refine gx_iald (f := (σ.2.2.1 80)) hx hb hK hG (ga_80 g _) hg5 dX9_areAlike_60 ?_
        refine lv_icmp_ne (tgt := 68) hx hb dX9_areAlike_61 (by decide) (fun c6 => ?_) (fun c6 => ?_)
        · have h := ite_f c6 h
          refine lv_iconst (v := (0 : Int32)) hx hb dX9_areAlike_68 (by decide) ?_
          exact n69 k24 hk24 x1 x2 x4 (0 : Int32) _ _ _ (lv_sub hl [0, 1, 2, 4] rfl) hG h
        · have h := ite_t c6 h
          refine lv_iconst (v := (1 : Int32)) hx hb dX9_areAlike_64 (by decide) ?_
          refine lv_goto (tgt := 69) hx hb dX9_areAlike_65 (by decide) ?_
          exact n69 k24 hk24 x1 x2 x4 (1 : Int32) _ _ _ (lv_sub hl [0, 1, 2, 4] rfl) hG h
  have l24 : ∀  (F : Nat) (x1 : Int32) (x2 : Int32) (x3 : Int32) (x4 : Int32) (H : Heap) (locs : List Loc) (ls : Array Slot), lv_has ls 5 [(0, .ref (g.2.1 50)), (1, .int x1), (2, .int x2), (3, .int x3), (4, .int x4)] → GW g s σ H locs → M_areAlike_l24 (σ.1 3203) (σ.2.2.1 80) F x1 x2 x3 x4 = some r → Wg p l e 0 0 s m args below meth c g (some (.int r)) σ H locs (F0 m 24 ls []) := by
    intro F
    induction F with
    | zero => intro x1 x2 x3 x4 H locs ls hl hG h; exact no_some h
    | succ F ih => intro x1 x2 x3 x4 H locs ls hl hG h; exact n24 (fun x1 x2 x3 x4 => M_areAlike_l24 (σ.1 3203) (σ.2.2.1 80) F x1 x2 x3 x4) ih x1 x2 x3 x4 H locs ls hl hG h
  have n20 : ∀ (x1 : Int32) (x2 : Int32) (t0 : Int32) (H : Heap) (locs : List Loc) (ls : Array Slot), lv_has ls 5 [(0, .ref (g.2.1 50)), (1, .int x1), (2, .int x2)] → GW g s σ H locs → M_areAlike_n20 (σ.1 3203) (σ.2.2.1 80) x1 x2 t0 = some r → Wg p l e 0 0 s m args below meth c g (some (.int r)) σ H locs (F0 m 20 ls [.int t0]) := by
    intro x1 x2 t0 H locs ls hl hG h
    unfold M_areAlike_n20 at h
    refine lv_istore_n (lv' := [(3, .int t0), (0, .ref (g.2.1 50)), (1, .int x1), (2, .int x2)]) hx hb dX9_areAlike_20 rfl hl (Nat.le_of_ble_eq_true rfl) rfl (fun ls hl => ?_)
    refine lv_iconst (v := (0 : Int32)) hx hb dX9_areAlike_21 (by decide) ?_
    refine lv_istore (lv' := [(4, .int (0 : Int32)), (3, .int t0), (0, .ref (g.2.1 50)), (1, .int x1), (2, .int x2)]) hx hb dX9_areAlike_22 hl (Nat.le_of_ble_eq_true rfl) rfl (fun ls hl => ?_)
    exact l24 FUEL x1 x2 t0 (0 : Int32) _ _ _ (lv_sub hl [2, 3, 4, 1, 0] rfl) hG h
  refine lv_aload_n hx hb dX9_areAlike_0 rfl (lv_at hl 0 rfl) ?_
  refine gx_get (v := .ref (g.2.1 78)) (C := RX9) (T := TX9) (N := 44) hx hb hts hinX9 hown hK hG (ga_50 g _) rfl 39 (by decide) hw2 rfl rfl dX9_areAlike_1 ?_
  refine lv_iload_n hx hb dX9_areAlike_4 rfl (lv_at hl 1 rfl) ?_
  obtain ⟨hg7, h⟩ := gd_some h
  refine gx_iald (f := (σ.2.2.1 78)) hx hb hK hG (ga_78 g _) hg7 dX9_areAlike_5 ?_
  refine lv_aload_n hx hb dX9_areAlike_6 rfl (lv_at hl 0 rfl) ?_
  refine gx_get (v := .ref (g.2.1 78)) (C := RX9) (T := TX9) (N := 44) hx hb hts hinX9 hown hK hG (ga_50 g _) rfl 39 (by decide) hw2 rfl rfl dX9_areAlike_7 ?_
  refine lv_iload_n hx hb dX9_areAlike_10 rfl (lv_at hl 2 rfl) ?_
  obtain ⟨hg8, h⟩ := gd_some h
  refine gx_iald (f := (σ.2.2.1 78)) hx hb hK hG (ga_78 g _) hg8 dX9_areAlike_11 ?_
  refine lv_icmp_ne (tgt := 19) hx hb dX9_areAlike_12 (by decide) (fun c9 => ?_) (fun c9 => ?_)
  · have h := ite_f c9 h
    refine lv_iconst (v := (0 : Int32)) hx hb dX9_areAlike_19 (by decide) ?_
    exact n20 x1 x2 (0 : Int32) _ _ _ (lv_sub hl [0, 1, 2] rfl) hG h
  · have h := ite_t c9 h
    refine lv_iconst (v := (1 : Int32)) hx hb dX9_areAlike_15 (by decide) ?_
    refine lv_goto (tgt := 20) hx hb dX9_areAlike_16 (by decide) ?_
    exact n20 x1 x2 (1 : Int32) _ _ _ (lv_sub hl [0, 1, 2] rfl) hG h

set_option maxHeartbeats 4000000 in
set_option maxRecDepth 100000 in
theorem c_M_partOnce (l : Launch) (g : GC) (σ : St) (r : Int32) (w_firstPair : Nat → Int32) (w_kindOf : Nat → Int32) (w_newKind : Nat → Int32) (w_signs : Nat → Int32) (h : M_partOnce (σ.1 3203) (σ.2.2.1 81) (σ.2.2.1 78) (σ.2.2.1 79) (σ.2.2.1 80) = some (r, w_firstPair, w_kindOf, w_newKind, w_signs)) : Cn l g yX9_partOnce wsX9_partOnce 1 26 [.ref (g.2.1 50)] σ (some (.int r)) (mkS σ [] [] [(81, w_firstPair), (78, w_kindOf), (79, w_newKind), (80, w_signs)] []) := by
  unfold Cn
  refine Met.ofW (cc := cX9_partOnce) (maxL := 6) (ret := (some .int)) (by decide) rfl ?_
  intro p e s m args below meth c s₁ B hml hv
  obtain ⟨hargs, hP0, hK⟩ := hv
  have hx := B.exec
  have hb := B.bytes
  have hr := B.returns
  have hts := atoms_spec (ws := wsX9_partOnce) B.pre
  have hown : s.vm.findClass RX9 = some m.cls := findClass_of_methodNamed B.named
  have hlocks := B.notSynchronized
  have hS9 : CallFix p m c cX9_partOnce 6 s args wsX9_partOnce RX9 := ⟨hx, hb, hml, hown, hts⟩
  have hinX9 : ∀ w ∈ wsX90, w ∈ wsX9_partOnce := fun w h => List.mem_cons_of_mem _ (List.mem_append_right _ (h))
  have hw0 := hts (.fieldLink RX9 116 "LikeNetsModel" "posts" "I") (List.mem_of_getElem? (i := 1) rfl)
  have hw1 := hts (.fieldLink RX9 100 "LikeNetsModel" "newKind" "[I") (List.mem_of_getElem? (i := 3) rfl)
  have hw2 := hts (.fieldLink RX9 107 "LikeNetsModel" "firstPair" "[I") (List.mem_of_getElem? (i := 2) rfl)
  have hw3 := hts (.fieldLink RX9 97 "LikeNetsModel" "kindOf" "[I") (List.mem_of_getElem? (i := 4) rfl)
  have hf9 : entryFrame m args 6 = _ := (congrArg (fun a => entryFrame m a 6) hargs).trans (lg_entry_eq m [.ref (g.2.1 50)] 6)
  show Wg p l e 1 26 s m args below meth c g (some (.int r)) (mkS σ [] [] [(81, w_firstPair), (78, w_kindOf), (79, w_newKind), (80, w_signs)] []) s.heap [] (entryFrame m args 6)
  rw [hf9]
  have hl := lv_entry ([.ref (g.2.1 50)]) (n := 6) (Nat.le_of_ble_eq_true rfl)
  generalize (lg_sl ([.ref (g.2.1 50)]) ++ List.replicate (6 - (lg_sl ([.ref (g.2.1 50)])).length) Slot.unset).toArray = ls at hl ⊢
  have hl : lv_has ls 6 [(0, .ref (g.2.1 50))] := hl
  have hG : GW g s σ s.heap [] := ⟨hP0, va_S.rf⟩
  have hG : GW g s (mkS σ [] [] [(81, (σ.2.2.1 81)), (78, (σ.2.2.1 78)), (79, (σ.2.2.1 79)), (80, (σ.2.2.1 80))] []) s.heap [] := GW_self [] [] [81, 78, 79, 80] [] hG
  unfold M_partOnce at h
  have n32 : ∀ (k2 : Int32 → (Nat → Int32) → (Nat → Int32) → (Nat → Int32) → (Nat → Int32) → Option (Int32 × (Nat → Int32) × (Nat → Int32) × (Nat → Int32) × (Nat → Int32))) (hk2 : ∀ (x1 : Int32) (v_firstPair : Nat → Int32) (v_kindOf : Nat → Int32) (v_newKind : Nat → Int32) (v_signs : Nat → Int32) (H : Heap) (locs : List Loc) (ls : Array Slot), lv_has ls 6 [(0, .ref (g.2.1 50)), (1, .int x1)] → GW g s (mkS σ [] [] [(81, v_firstPair), (78, v_kindOf), (79, v_newKind), (80, v_signs)] []) H locs → k2 x1 v_firstPair v_kindOf v_newKind v_signs = some (r, w_firstPair, w_kindOf, w_newKind, w_signs) → Wg p l e 1 26 s m args below meth c g (some (.int r)) (mkS σ [] [] [(81, w_firstPair), (78, w_kindOf), (79, w_newKind), (80, w_signs)] []) H locs (F0 m 2 ls [])) (x1 : Int32) (v_firstPair : Nat → Int32) (v_kindOf : Nat → Int32) (v_newKind : Nat → Int32) (v_signs : Nat → Int32) (H : Heap) (locs : List Loc) (ls : Array Slot), lv_has ls 6 [(0, .ref (g.2.1 50)), (1, .int x1)] → GW g s (mkS σ [] [] [(81, v_firstPair), (78, v_kindOf), (79, v_newKind), (80, v_signs)] []) H locs → M_partOnce_n32 k2 x1 v_firstPair v_kindOf v_newKind v_signs = some (r, w_firstPair, w_kindOf, w_newKind, w_signs) → Wg p l e 1 26 s m args below meth c g (some (.int r)) (mkS σ [] [] [(81, w_firstPair), (78, w_kindOf), (79, w_newKind), (80, w_signs)] []) H locs (F0 m 32 ls []) := by
    intro k2 hk2 x1 v_firstPair v_kindOf v_newKind v_signs H locs ls hl hG h
    unfold M_partOnce_n32 at h
    refine lv_iinc (v := (x1 + (1 : Int32))) (lv' := [(1, .int (x1 + (1 : Int32))), (0, .ref (g.2.1 50))]) hx hb dX9_partOnce_32 hl (k := 1) rfl (congrArg (fun z => x1 + z) (by decide)) (Nat.le_of_ble_eq_true rfl) rfl (fun ls hl => ?_)
    refine lv_goto (tgt := 2) hx hb dX9_partOnce_35 (by decide) ?_
    exact hk2 (x1 + (1 : Int32)) v_firstPair v_kindOf v_newKind v_signs _ _ _ (lv_sub hl [1, 0] rfl) hG h
  have n12 : ∀ (k2 : Int32 → (Nat → Int32) → (Nat → Int32) → (Nat → Int32) → (Nat → Int32) → Option (Int32 × (Nat → Int32) × (Nat → Int32) × (Nat → Int32) × (Nat → Int32))) (hk2 : ∀ (x1 : Int32) (v_firstPair : Nat → Int32) (v_kindOf : Nat → Int32) (v_newKind : Nat → Int32) (v_signs : Nat → Int32) (H : Heap) (locs : List Loc) (ls : Array Slot), lv_has ls 6 [(0, .ref (g.2.1 50)), (1, .int x1)] → GW g s (mkS σ [] [] [(81, v_firstPair), (78, v_kindOf), (79, v_newKind), (80, v_signs)] []) H locs → k2 x1 v_firstPair v_kindOf v_newKind v_signs = some (r, w_firstPair, w_kindOf, w_newKind, w_signs) → Wg p l e 1 26 s m args below meth c g (some (.int r)) (mkS σ [] [] [(81, w_firstPair), (78, w_kindOf), (79, w_newKind), (80, w_signs)] []) H locs (F0 m 2 ls [])) (k12 : Int32 → Int32 → (Nat → Int32) → (Nat → Int32) → (Nat → Int32) → (Nat → Int32) → Option (Int32 × (Nat → Int32) × (Nat → Int32) × (Nat → Int32) × (Nat → Int32))) (hk12 : ∀ (x1 : Int32) (x2 : Int32) (v_firstPair : Nat → Int32) (v_kindOf : Nat → Int32) (v_newKind : Nat → Int32) (v_signs : Nat → Int32) (H : Heap) (locs : List Loc) (ls : Array Slot), lv_has ls 6 [(0, .ref (g.2.1 50)), (1, .int x1), (2, .int x2)] → GW g s (mkS σ [] [] [(81, v_firstPair), (78, v_kindOf), (79, v_newKind), (80, v_signs)] []) H locs → k12 x1 x2 v_firstPair v_kindOf v_newKind v_signs = some (r, w_firstPair, w_kindOf, w_newKind, w_signs) → Wg p l e 1 26 s m args below meth c g (some (.int r)) (mkS σ [] [] [(81, w_firstPair), (78, w_kindOf), (79, w_newKind), (80, w_signs)] []) H locs (F0 m 12 ls [])) (x1 : Int32) (x2 : Int32) (v_firstPair : Nat → Int32) (v_kindOf : Nat → Int32) (v_newKind : Nat → Int32) (v_signs : Nat → Int32) (H : Heap) (locs : List Loc) (ls : Array Slot), lv_has ls 6 [(0, .ref (g.2.1 50)), (1, .int x1), (2, .int x2)] → GW g s (mkS σ [] [] [(81, v_firstPair), (78, v_kindOf), (79, v_newKind), (80, v_signs)] []) H locs → M_partOnce_n12 k2 k12 (σ.1 3203) x1 x2 v_firstPair v_kindOf v_newKind v_signs = some (r, w_firstPair, w_kindOf, w_newKind, w_signs) → Wg p l e 1 26 s m args below meth c g (some (.int r)) (mkS σ [] [] [(81, w_firstPair), (78, w_kindOf), (79, w_newKind), (80, w_signs)] []) H locs (F0 m 12 ls []) := by
    intro k2 hk2 k12 hk12 x1 x2 v_firstPair v_kindOf v_newKind v_signs H locs ls hl hG h
    unfold M_partOnce_n12 at h
    refine lv_iload_n hx hb dX9_partOnce_12 rfl (lv_at hl 2 rfl) ?_
    refine lv_aload_n hx hb dX9_partOnce_13 rfl (lv_at hl 0 rfl) ?_
    refine gx_get (v := .int (σ.1 3203)) (C := RX9) (T := TX9) (N := 44) hx hb hts hinX9 hown hK hG (ga_50 g _) rfl 3 (by decide) hw0 rfl rfl dX9_partOnce_14 ?_
    refine lv_icmp_ge (tgt := 32) hx hb dX9_partOnce_17 (by decide) (fun c1 => ?_) (fun c1 => ?_)
    · have h := ite_t c1 h
      exact n32 k2 hk2 x1 v_firstPair v_kindOf v_newKind v_signs _ _ _ (lv_sub hl [0, 1] rfl) hG h
    · have h := ite_f c1 h
      refine lv_aload_n hx hb dX9_partOnce_20 rfl (lv_at hl 0 rfl) ?_
      refine lv_iload_n hx hb dX9_partOnce_21 rfl (lv_at hl 1 rfl) ?_
      refine lv_iload_n hx hb dX9_partOnce_22 rfl (lv_at hl 2 rfl) ?_
      obtain ⟨z2, hc3, h⟩ := bnd_some h
      refine gx_cV (σ' := (mkS σ [] [] [(81, v_firstPair), (78, v_kindOf), (79, v_newKind), (80, z2)] [])) (r := none) (rest := []) (As := [.int x1, .int x2]) hS9 (c_M_sign l g (mkS σ [] [] [(81, v_firstPair), (78, v_kindOf), (79, v_newKind), (80, v_signs)] []) x1 x2 z2 hc3) (mk_mk rfl rfl rfl rfl) (cwV 2 hts gX9_partOnce_X9_sign rfl rfl rfl (by decide +kernel) ⟨Nat.le_of_ble_eq_true rfl, Nat.le_of_ble_eq_true rfl⟩) hK hG (ga_50 g _) rfl rfl rfl hl.1 rfl (Nat.le_of_ble_eq_true rfl) dX9_partOnce_23 (fun H locs hG => ?_)
      refine W.eq (g2 := F0 m 26 ls []) rfl ?_
      refine lv_iinc (v := (x2 + (1 : Int32))) (lv' := [(2, .int (x2 + (1 : Int32))), (0, .ref (g.2.1 50)), (1, .int x1)]) hx hb dX9_partOnce_26 hl (k := 2) rfl (congrArg (fun z => x2 + z) (by decide)) (Nat.le_of_ble_eq_true rfl) rfl (fun ls hl => ?_)
      refine lv_goto (tgt := 12) hx hb dX9_partOnce_29 (by decide) ?_
      exact hk12 x1 (x2 + (1 : Int32)) v_firstPair v_kindOf v_newKind z2 _ _ _ (lv_sub hl [1, 2, 0] rfl) hG h
  have l12 : ∀ (k2 : Int32 → (Nat → Int32) → (Nat → Int32) → (Nat → Int32) → (Nat → Int32) → Option (Int32 × (Nat → Int32) × (Nat → Int32) × (Nat → Int32) × (Nat → Int32))) (hk2 : ∀ (x1 : Int32) (v_firstPair : Nat → Int32) (v_kindOf : Nat → Int32) (v_newKind : Nat → Int32) (v_signs : Nat → Int32) (H : Heap) (locs : List Loc) (ls : Array Slot), lv_has ls 6 [(0, .ref (g.2.1 50)), (1, .int x1)] → GW g s (mkS σ [] [] [(81, v_firstPair), (78, v_kindOf), (79, v_newKind), (80, v_signs)] []) H locs → k2 x1 v_firstPair v_kindOf v_newKind v_signs = some (r, w_firstPair, w_kindOf, w_newKind, w_signs) → Wg p l e 1 26 s m args below meth c g (some (.int r)) (mkS σ [] [] [(81, w_firstPair), (78, w_kindOf), (79, w_newKind), (80, w_signs)] []) H locs (F0 m 2 ls [])) (F : Nat) (x1 : Int32) (x2 : Int32) (v_firstPair : Nat → Int32) (v_kindOf : Nat → Int32) (v_newKind : Nat → Int32) (v_signs : Nat → Int32) (H : Heap) (locs : List Loc) (ls : Array Slot), lv_has ls 6 [(0, .ref (g.2.1 50)), (1, .int x1), (2, .int x2)] → GW g s (mkS σ [] [] [(81, v_firstPair), (78, v_kindOf), (79, v_newKind), (80, v_signs)] []) H locs → M_partOnce_l12 k2 (σ.1 3203) F x1 x2 v_firstPair v_kindOf v_newKind v_signs = some (r, w_firstPair, w_kindOf, w_newKind, w_signs) → Wg p l e 1 26 s m args below meth c g (some (.int r)) (mkS σ [] [] [(81, w_firstPair), (78, w_kindOf), (79, w_newKind), (80, w_signs)] []) H locs (F0 m 12 ls []) := by
    intro k2 hk2 F
    induction F with
    | zero => intro x1 x2 v_firstPair v_kindOf v_newKind v_signs H locs ls hl hG h; exact no_some h
    | succ F ih => intro x1 x2 v_firstPair v_kindOf v_newKind v_signs H locs ls hl hG h; exact n12 k2 hk2 (fun x1 x2 v_firstPair v_kindOf v_newKind v_signs => M_partOnce_l12 k2 (σ.1 3203) F x1 x2 v_firstPair v_kindOf v_newKind v_signs) ih x1 x2 v_firstPair v_kindOf v_newKind v_signs H locs ls hl hG h
  have n116 : ∀ (k52 : Int32 → Int32 → Int32 → (Nat → Int32) → (Nat → Int32) → (Nat → Int32) → (Nat → Int32) → Option (Int32 × (Nat → Int32) × (Nat → Int32) × (Nat → Int32) × (Nat → Int32))) (hk52 : ∀ (x1 : Int32) (x2 : Int32) (x3 : Int32) (v_firstPair : Nat → Int32) (v_kindOf : Nat → Int32) (v_newKind : Nat → Int32) (v_signs : Nat → Int32) (H : Heap) (locs : List Loc) (ls : Array Slot), lv_has ls 6 [(0, .ref (g.2.1 50)), (1, .int x1), (2, .int x2), (3, .int x3)] → GW g s (mkS σ [] [] [(81, v_firstPair), (78, v_kindOf), (79, v_newKind), (80, v_signs)] []) H locs → k52 x1 x2 x3 v_firstPair v_kindOf v_newKind v_signs = some (r, w_firstPair, w_kindOf, w_newKind, w_signs) → Wg p l e 1 26 s m args below meth c g (some (.int r)) (mkS σ [] [] [(81, w_firstPair), (78, w_kindOf), (79, w_newKind), (80, w_signs)] []) H locs (F0 m 52 ls [])) (x1 : Int32) (x2 : Int32) (x3 : Int32) (x4 : Int32) (x5 : Int32) (v_firstPair : Nat → Int32) (v_kindOf : Nat → Int32) (v_newKind : Nat → Int32) (v_signs : Nat → Int32) (H : Heap) (locs : List Loc) (ls : Array Slot), lv_has ls 6 [(0, .ref (g.2.1 50)), (1, .int x1), (2, .int x2), (3, .int x3), (4, .int x4), (5, .int x5)] → GW g s (mkS σ [] [] [(81, v_firstPair), (78, v_kindOf), (79, v_newKind), (80, v_signs)] []) H locs → M_partOnce_n116 k52 x1 x2 x3 x4 x5 v_firstPair v_kindOf v_newKind v_signs = some (r, w_firstPair, w_kindOf, w_newKind, w_signs) → Wg p l e 1 26 s m args below meth c g (some (.int r)) (mkS σ [] [] [(81, w_firstPair), (78, w_kindOf), (79, w_newKind), (80, w_signs)] []) H locs (F0 m 116 ls []) := by
    intro k52 hk52 x1 x2 x3 x4 x5 v_firstPair v_kindOf v_newKind v_signs H locs ls hl hG h
    unfold M_partOnce_n116 at h
    refine lv_aload_n hx hb dX9_partOnce_116 rfl (lv_at hl 0 rfl) ?_
    refine gx_get (v := .ref (g.2.1 79)) (C := RX9) (T := TX9) (N := 44) hx hb hts hinX9 hown hK hG (ga_50 g _) rfl 40 (by decide) hw1 rfl rfl dX9_partOnce_117 ?_
    refine lv_iload hx hb dX9_partOnce_120 (lv_at hl 4 rfl) ?_
    refine lv_iload hx hb dX9_partOnce_122 (lv_at hl 5 rfl) ?_
    obtain ⟨hg4, h⟩ := gd_some h
    refine gx_iast (σ' := (mkS σ [] [] [(81, v_firstPair), (78, v_kindOf), (79, (upd v_newKind (x4.toNatClampNeg) x5)), (80, v_signs)] [])) (f := v_newKind) hx hb hK hG (ga_79 g _) hg4 ((gs_79 g _ _).trans (congrArg (g_cells g) (mk_c 2 rfl rfl))) dX9_partOnce_124 (fun H locs hG => ?_)
    refine lv_iinc (v := (x3 + (1 : Int32))) (lv' := [(3, .int (x3 + (1 : Int32))), (0, .ref (g.2.1 50)), (1, .int x1), (2, .int x2), (4, .int x4), (5, .int x5)]) hx hb dX9_partOnce_125 hl (k := 3) rfl (congrArg (fun z => x3 + z) (by decide)) (Nat.le_of_ble_eq_true rfl) rfl (fun ls hl => ?_)
    refine lv_goto (tgt := 52) hx hb dX9_partOnce_128 (by decide) ?_
    exact hk52 x1 x2 (x3 + (1 : Int32)) v_firstPair v_kindOf (upd v_newKind (x4.toNatClampNeg) x5) v_signs _ _ _ (lv_sub hl [1, 2, 3, 0] rfl) hG h
  have n99 : ∀ (k52 : Int32 → Int32 → Int32 → (Nat → Int32) → (Nat → Int32) → (Nat → Int32) → (Nat → Int32) → Option (Int32 × (Nat → Int32) × (Nat → Int32) × (Nat → Int32) × (Nat → Int32))) (hk52 : ∀ (x1 : Int32) (x2 : Int32) (x3 : Int32) (v_firstPair : Nat → Int32) (v_kindOf : Nat → Int32) (v_newKind : Nat → Int32) (v_signs : Nat → Int32) (H : Heap) (locs : List Loc) (ls : Array Slot), lv_has ls 6 [(0, .ref (g.2.1 50)), (1, .int x1), (2, .int x2), (3, .int x3)] → GW g s (mkS σ [] [] [(81, v_firstPair), (78, v_kindOf), (79, v_newKind), (80, v_signs)] []) H locs → k52 x1 x2 x3 v_firstPair v_kindOf v_newKind v_signs = some (r, w_firstPair, w_kindOf, w_newKind, w_signs) → Wg p l e 1 26 s m args below meth c g (some (.int r)) (mkS σ [] [] [(81, w_firstPair), (78, w_kindOf), (79, w_newKind), (80, w_signs)] []) H locs (F0 m 52 ls [])) (x1 : Int32) (x2 : Int32) (x3 : Int32) (x4 : Int32) (x5 : Int32) (v_firstPair : Nat → Int32) (v_kindOf : Nat → Int32) (v_newKind : Nat → Int32) (v_signs : Nat → Int32) (H : Heap) (locs : List Loc) (ls : Array Slot), lv_has ls 6 [(0, .ref (g.2.1 50)), (1, .int x1), (2, .int x2), (3, .int x3), (4, .int x4), (5, .int x5)] → GW g s (mkS σ [] [] [(81, v_firstPair), (78, v_kindOf), (79, v_newKind), (80, v_signs)] []) H locs → M_partOnce_n99 k52 x1 x2 x3 x4 x5 v_firstPair v_kindOf v_newKind v_signs = some (r, w_firstPair, w_kindOf, w_newKind, w_signs) → Wg p l e 1 26 s m args below meth c g (some (.int r)) (mkS σ [] [] [(81, w_firstPair), (78, w_kindOf), (79, w_newKind), (80, w_signs)] []) H locs (F0 m 99 ls []) := by
    intro k52 hk52 x1 x2 x3 x4 x5 v_firstPair v_kindOf v_newKind v_signs H locs ls hl hG h
    unfold M_partOnce_n99 at h
    refine lv_iload hx hb dX9_partOnce_99 (lv_at hl 5 rfl) ?_
    refine lv_iload_n hx hb dX9_partOnce_101 rfl (lv_at hl 1 rfl) ?_
    refine lv_icmp_ne (tgt := 116) hx hb dX9_partOnce_102 (by decide) (fun c5 => ?_) (fun c5 => ?_)
    · have h := ite_f c5 h
      exact n116 k52 hk52 x1 x2 x3 x4 x5 v_firstPair v_kindOf v_newKind v_signs _ _ _ (lv_sub hl [0, 1, 2, 3, 4, 5] rfl) hG h
    · have h := ite_t c5 h
      refine lv_aload_n hx hb dX9_partOnce_105 rfl (lv_at hl 0 rfl) ?_
      refine gx_get (v := .ref (g.2.1 81)) (C := RX9) (T := TX9) (N := 44) hx hb hts hinX9 hown hK hG (ga_50 g _) rfl 43 (by decide) hw2 rfl rfl dX9_partOnce_106 ?_
      refine lv_iload_n hx hb dX9_partOnce_109 rfl (lv_at hl 1 rfl) ?_
      refine lv_iload hx hb dX9_partOnce_110 (lv_at hl 4 rfl) ?_
      obtain ⟨hg6, h⟩ := gd_some h
      refine gx_iast (σ' := (mkS σ [] [] [(81, (upd v_firstPair (x1.toNatClampNeg) x4)), (78, v_kindOf), (79, v_newKind), (80, v_signs)] [])) (f := v_firstPair) hx hb hK hG (ga_81 g _) hg6 ((gs_81 g _ _).trans (congrArg (g_cells g) (mk_c 0 rfl rfl))) dX9_partOnce_112 (fun H locs hG => ?_)
      refine lv_iinc (v := (x1 + (1 : Int32))) (lv' := [(1, .int (x1 + (1 : Int32))), (0, .ref (g.2.1 50)), (2, .int x2), (3, .int x3), (4, .int x4), (5, .int x5)]) hx hb dX9_partOnce_113 hl (k := 1) rfl (congrArg (fun z => x1 + z) (by decide)) (Nat.le_of_ble_eq_true rfl) rfl (fun ls hl => ?_)
      exact n116 k52 hk52 (x1 + (1 : Int32)) x2 x3 x4 x5 (upd v_firstPair (x1.toNatClampNeg) x4) v_kindOf v_newKind v_signs _ _ _ (lv_sub hl [1, 0, 2, 3, 4, 5] rfl) hG h
  have n71 : ∀ (k52 : Int32 → Int32 → Int32 → (Nat → Int32) → (Nat → Int32) → (Nat → Int32) → (Nat → Int32) → Option (Int32 × (Nat → Int32) × (Nat → Int32) × (Nat → Int32) × (Nat → Int32))) (hk52 : ∀ (x1 : Int32) (x2 : Int32) (x3 : Int32) (v_firstPair : Nat → Int32) (v_kindOf : Nat → Int32) (v_newKind : Nat → Int32) (v_signs : Nat → Int32) (H : Heap) (locs : List Loc) (ls : Array Slot), lv_has ls 6 [(0, .ref (g.2.1 50)), (1, .int x1), (2, .int x2), (3, .int x3)] → GW g s (mkS σ [] [] [(81, v_firstPair), (78, v_kindOf), (79, v_newKind), (80, v_signs)] []) H locs → k52 x1 x2 x3 v_firstPair v_kindOf v_newKind v_signs = some (r, w_firstPair, w_kindOf, w_newKind, w_signs) → Wg p l e 1 26 s m args below meth c g (some (.int r)) (mkS σ [] [] [(81, w_firstPair), (78, w_kindOf), (79, w_newKind), (80, w_signs)] []) H locs (F0 m 52 ls [])) (k71 : Int32 → Int32 → Int32 → Int32 → Int32 → (Nat → Int32) → (Nat → Int32) → (Nat → Int32) → (Nat → Int32) → Option (Int32 × (Nat → Int32) × (Nat → Int32) × (Nat → Int32) × (Nat → Int32))) (hk71 : ∀ (x1 : Int32) (x2 : Int32) (x3 : Int32) (x4 : Int32) (x5 : Int32) (v_firstPair : Nat → Int32) (v_kindOf : Nat → Int32) (v_newKind : Nat → Int32) (v_signs : Nat → Int32) (H : Heap) (locs : List Loc) (ls : Array Slot), lv_has ls 6 [(0, .ref (g.2.1 50)), (1, .int x1), (2, .int x2), (3, .int x3), (4, .int x4), (5, .int x5)] → GW g s (mkS σ [] [] [(81, v_firstPair), (78, v_kindOf), (79, v_newKind), (80, v_signs)] []) H locs → k71 x1 x2 x3 x4 x5 v_firstPair v_kindOf v_newKind v_signs = some (r, w_firstPair, w_kindOf, w_newKind, w_signs) → Wg p l e 1 26 s m args below meth c g (some (.int r)) (mkS σ [] [] [(81, w_firstPair), (78, w_kindOf), (79, w_newKind), (80, w_signs)] []) H locs (F0 m 71 ls [])) (x1 : Int32) (x2 : Int32) (x3 : Int32) (x4 : Int32) (x5 : Int32) (v_firstPair : Nat → Int32) (v_kindOf : Nat → Int32) (v_newKind : Nat → Int32) (v_signs : Nat → Int32) (H : Heap) (locs : List Loc) (ls : Array Slot), lv_has ls 6 [(0, .ref (g.2.1 50)), (1, .int x1), (2, .int x2), (3, .int x3), (4, .int x4), (5, .int x5)] → GW g s (mkS σ [] [] [(81, v_firstPair), (78, v_kindOf), (79, v_newKind), (80, v_signs)] []) H locs → M_partOnce_n71 k52 k71 (σ.1 3203) x1 x2 x3 x4 x5 v_firstPair v_kindOf v_newKind v_signs = some (r, w_firstPair, w_kindOf, w_newKind, w_signs) → Wg p l e 1 26 s m args below meth c g (some (.int r)) (mkS σ [] [] [(81, w_firstPair), (78, w_kindOf), (79, w_newKind), (80, w_signs)] []) H locs (F0 m 71 ls []) := by
    intro k52 hk52 k71 hk71 x1 x2 x3 x4 x5 v_firstPair v_kindOf v_newKind v_signs H locs ls hl hG h
    unfold M_partOnce_n71 at h
    refine lv_iload hx hb dX9_partOnce_71 (lv_at hl 5 rfl) ?_
    refine lv_iload_n hx hb dX9_partOnce_73 rfl (lv_at hl 1 rfl) ?_
    refine lv_icmp_ge (tgt := 99) hx hb dX9_partOnce_74 (by decide) (fun c7 => ?_) (fun c7 => ?_)
    · have h := ite_t c7 h
      exact n99 k52 hk52 x1 x2 x3 x4 x5 v_firstPair v_kindOf v_newKind v_signs _ _ _ (lv_sub hl [0, 1, 2, 3, 4, 5] rfl) hG h
    · have h := ite_f c7 h
      refine lv_aload_n hx hb dX9_partOnce_77 rfl (lv_at hl 0 rfl) ?_
      refine lv_aload_n hx hb dX9_partOnce_78 rfl (lv_at hl 0 rfl) ?_
      refine gx_get (v := .ref (g.2.1 81)) (C := RX9) (T := TX9) (N := 44) hx hb hts hinX9 hown hK hG (ga_50 g _) rfl 43 (by decide) hw2 rfl rfl dX9_partOnce_79 ?_
      refine lv_iload hx hb dX9_partOnce_82 (lv_at hl 5 rfl) ?_
      obtain ⟨hg8, h⟩ := gd_some h
      refine gx_iald (f := v_firstPair) hx hb hK hG (ga_81 g _) hg8 dX9_partOnce_84 ?_
      refine lv_iload hx hb dX9_partOnce_85 (lv_at hl 4 rfl) ?_
      obtain ⟨z9, hc10, h⟩ := bnd_some h
      refine gx_cV (σ' := (mkS σ [] [] [(81, v_firstPair), (78, v_kindOf), (79, v_newKind), (80, v_signs)] [])) (r := (some (.int z9))) (rest := []) (As := [.int (v_firstPair (x5.toNatClampNeg)), .int x4]) hS9 (c_M_areAlike l g (mkS σ [] [] [(81, v_firstPair), (78, v_kindOf), (79, v_newKind), (80, v_signs)] []) (v_firstPair (x5.toNatClampNeg)) x4 z9 hc10) rfl (cwV 2 hts gX9_partOnce_X9_areAlike rfl rfl rfl (by decide +kernel) ⟨Nat.le_of_ble_eq_true rfl, Nat.le_of_ble_eq_true rfl⟩) hK hG (ga_50 g _) rfl rfl rfl hl.1 rfl (Nat.le_of_ble_eq_true rfl) dX9_partOnce_87 (fun H locs hG => ?_)
      refine W.eq (g2 := F0 m 90 ls [.int z9]) rfl ?_
      refine lv_if_ne (tgt := 99) hx hb dX9_partOnce_90 (by decide) (fun c11 => ?_) (fun c11 => ?_)
      · have h := ite_f c11 h
        exact n99 k52 hk52 x1 x2 x3 x4 x5 v_firstPair v_kindOf v_newKind v_signs _ _ _ (lv_sub hl [0, 1, 2, 3, 4, 5] rfl) hG h
      · have h := ite_t c11 h
        refine lv_iinc (v := (x5 + (1 : Int32))) (lv' := [(5, .int (x5 + (1 : Int32))), (0, .ref (g.2.1 50)), (1, .int x1), (2, .int x2), (3, .int x3), (4, .int x4)]) hx hb dX9_partOnce_93 hl (k := 5) rfl (congrArg (fun z => x5 + z) (by decide)) (Nat.le_of_ble_eq_true rfl) rfl (fun ls hl => ?_)
        refine lv_goto (tgt := 71) hx hb dX9_partOnce_96 (by decide) ?_
        exact hk71 x1 x2 x3 x4 (x5 + (1 : Int32)) v_firstPair v_kindOf v_newKind v_signs _ _ _ (lv_sub hl [1, 2, 3, 4, 5, 0] rfl) hG h
  have l71 : ∀ (k52 : Int32 → Int32 → Int32 → (Nat → Int32) → (Nat → Int32) → (Nat → Int32) → (Nat → Int32) → Option (Int32 × (Nat → Int32) × (Nat → Int32) × (Nat → Int32) × (Nat → Int32))) (hk52 : ∀ (x1 : Int32) (x2 : Int32) (x3 : Int32) (v_firstPair : Nat → Int32) (v_kindOf : Nat → Int32) (v_newKind : Nat → Int32) (v_signs : Nat → Int32) (H : Heap) (locs : List Loc) (ls : Array Slot), lv_has ls 6 [(0, .ref (g.2.1 50)), (1, .int x1), (2, .int x2), (3, .int x3)] → GW g s (mkS σ [] [] [(81, v_firstPair), (78, v_kindOf), (79, v_newKind), (80, v_signs)] []) H locs → k52 x1 x2 x3 v_firstPair v_kindOf v_newKind v_signs = some (r, w_firstPair, w_kindOf, w_newKind, w_signs) → Wg p l e 1 26 s m args below meth c g (some (.int r)) (mkS σ [] [] [(81, w_firstPair), (78, w_kindOf), (79, w_newKind), (80, w_signs)] []) H locs (F0 m 52 ls [])) (F : Nat) (x1 : Int32) (x2 : Int32) (x3 : Int32) (x4 : Int32) (x5 : Int32) (v_firstPair : Nat → Int32) (v_kindOf : Nat → Int32) (v_newKind : Nat → Int32) (v_signs : Nat → Int32) (H : Heap) (locs : List Loc) (ls : Array Slot), lv_has ls 6 [(0, .ref (g.2.1 50)), (1, .int x1), (2, .int x2), (3, .int x3), (4, .int x4), (5, .int x5)] → GW g s (mkS σ [] [] [(81, v_firstPair), (78, v_kindOf), (79, v_newKind), (80, v_signs)] []) H locs → M_partOnce_l71 k52 (σ.1 3203) F x1 x2 x3 x4 x5 v_firstPair v_kindOf v_newKind v_signs = some (r, w_firstPair, w_kindOf, w_newKind, w_signs) → Wg p l e 1 26 s m args below meth c g (some (.int r)) (mkS σ [] [] [(81, w_firstPair), (78, w_kindOf), (79, w_newKind), (80, w_signs)] []) H locs (F0 m 71 ls []) := by
    intro k52 hk52 F
    induction F with
    | zero => intro x1 x2 x3 x4 x5 v_firstPair v_kindOf v_newKind v_signs H locs ls hl hG h; exact no_some h
    | succ F ih => intro x1 x2 x3 x4 x5 v_firstPair v_kindOf v_newKind v_signs H locs ls hl hG h; exact n71 k52 hk52 (fun x1 x2 x3 x4 x5 v_firstPair v_kindOf v_newKind v_signs => M_partOnce_l71 k52 (σ.1 3203) F x1 x2 x3 x4 x5 v_firstPair v_kindOf v_newKind v_signs) ih x1 x2 x3 x4 x5 v_firstPair v_kindOf v_newKind v_signs H locs ls hl hG h
  have n131 : ∀ (k42 : Int32 → Int32 → (Nat → Int32) → (Nat → Int32) → (Nat → Int32) → (Nat → Int32) → Option (Int32 × (Nat → Int32) × (Nat → Int32) × (Nat → Int32) × (Nat → Int32))) (hk42 : ∀ (x1 : Int32) (x2 : Int32) (v_firstPair : Nat → Int32) (v_kindOf : Nat → Int32) (v_newKind : Nat → Int32) (v_signs : Nat → Int32) (H : Heap) (locs : List Loc) (ls : Array Slot), lv_has ls 6 [(0, .ref (g.2.1 50)), (1, .int x1), (2, .int x2)] → GW g s (mkS σ [] [] [(81, v_firstPair), (78, v_kindOf), (79, v_newKind), (80, v_signs)] []) H locs → k42 x1 x2 v_firstPair v_kindOf v_newKind v_signs = some (r, w_firstPair, w_kindOf, w_newKind, w_signs) → Wg p l e 1 26 s m args below meth c g (some (.int r)) (mkS σ [] [] [(81, w_firstPair), (78, w_kindOf), (79, w_newKind), (80, w_signs)] []) H locs (F0 m 42 ls [])) (x1 : Int32) (x2 : Int32) (v_firstPair : Nat → Int32) (v_kindOf : Nat → Int32) (v_newKind : Nat → Int32) (v_signs : Nat → Int32) (H : Heap) (locs : List Loc) (ls : Array Slot), lv_has ls 6 [(0, .ref (g.2.1 50)), (1, .int x1), (2, .int x2)] → GW g s (mkS σ [] [] [(81, v_firstPair), (78, v_kindOf), (79, v_newKind), (80, v_signs)] []) H locs → M_partOnce_n131 k42 x1 x2 v_firstPair v_kindOf v_newKind v_signs = some (r, w_firstPair, w_kindOf, w_newKind, w_signs) → Wg p l e 1 26 s m args below meth c g (some (.int r)) (mkS σ [] [] [(81, w_firstPair), (78, w_kindOf), (79, w_newKind), (80, w_signs)] []) H locs (F0 m 131 ls []) := by
    intro k42 hk42 x1 x2 v_firstPair v_kindOf v_newKind v_signs H locs ls hl hG h
    unfold M_partOnce_n131 at h
    refine lv_iinc (v := (x2 + (1 : Int32))) (lv' := [(2, .int (x2 + (1 : Int32))), (0, .ref (g.2.1 50)), (1, .int x1)]) hx hb dX9_partOnce_131 hl (k := 2) rfl (congrArg (fun z => x2 + z) (by decide)) (Nat.le_of_ble_eq_true rfl) rfl (fun ls hl => ?_)
    refine lv_goto (tgt := 42) hx hb dX9_partOnce_134 (by decide) ?_
    exact hk42 x1 (x2 + (1 : Int32)) v_firstPair v_kindOf v_newKind v_signs _ _ _ (lv_sub hl [1, 2, 0] rfl) hG h
  have n52 : ∀ (k42 : Int32 → Int32 → (Nat → Int32) → (Nat → Int32) → (Nat → Int32) → (Nat → Int32) → Option (Int32 × (Nat → Int32) × (Nat → Int32) × (Nat → Int32) × (Nat → Int32))) (hk42 : ∀ (x1 : Int32) (x2 : Int32) (v_firstPair : Nat → Int32) (v_kindOf : Nat → Int32) (v_newKind : Nat → Int32) (v_signs : Nat → Int32) (H : Heap) (locs : List Loc) (ls : Array Slot), lv_has ls 6 [(0, .ref (g.2.1 50)), (1, .int x1), (2, .int x2)] → GW g s (mkS σ [] [] [(81, v_firstPair), (78, v_kindOf), (79, v_newKind), (80, v_signs)] []) H locs → k42 x1 x2 v_firstPair v_kindOf v_newKind v_signs = some (r, w_firstPair, w_kindOf, w_newKind, w_signs) → Wg p l e 1 26 s m args below meth c g (some (.int r)) (mkS σ [] [] [(81, w_firstPair), (78, w_kindOf), (79, w_newKind), (80, w_signs)] []) H locs (F0 m 42 ls [])) (k52 : Int32 → Int32 → Int32 → (Nat → Int32) → (Nat → Int32) → (Nat → Int32) → (Nat → Int32) → Option (Int32 × (Nat → Int32) × (Nat → Int32) × (Nat → Int32) × (Nat → Int32))) (hk52 : ∀ (x1 : Int32) (x2 : Int32) (x3 : Int32) (v_firstPair : Nat → Int32) (v_kindOf : Nat → Int32) (v_newKind : Nat → Int32) (v_signs : Nat → Int32) (H : Heap) (locs : List Loc) (ls : Array Slot), lv_has ls 6 [(0, .ref (g.2.1 50)), (1, .int x1), (2, .int x2), (3, .int x3)] → GW g s (mkS σ [] [] [(81, v_firstPair), (78, v_kindOf), (79, v_newKind), (80, v_signs)] []) H locs → k52 x1 x2 x3 v_firstPair v_kindOf v_newKind v_signs = some (r, w_firstPair, w_kindOf, w_newKind, w_signs) → Wg p l e 1 26 s m args below meth c g (some (.int r)) (mkS σ [] [] [(81, w_firstPair), (78, w_kindOf), (79, w_newKind), (80, w_signs)] []) H locs (F0 m 52 ls [])) (x1 : Int32) (x2 : Int32) (x3 : Int32) (v_firstPair : Nat → Int32) (v_kindOf : Nat → Int32) (v_newKind : Nat → Int32) (v_signs : Nat → Int32) (H : Heap) (locs : List Loc) (ls : Array Slot), lv_has ls 6 [(0, .ref (g.2.1 50)), (1, .int x1), (2, .int x2), (3, .int x3)] → GW g s (mkS σ [] [] [(81, v_firstPair), (78, v_kindOf), (79, v_newKind), (80, v_signs)] []) H locs → M_partOnce_n52 k42 k52 (σ.1 3203) x1 x2 x3 v_firstPair v_kindOf v_newKind v_signs = some (r, w_firstPair, w_kindOf, w_newKind, w_signs) → Wg p l e 1 26 s m args below meth c g (some (.int r)) (mkS σ [] [] [(81, w_firstPair), (78, w_kindOf), (79, w_newKind), (80, w_signs)] []) H locs (F0 m 52 ls []) := by
    intro k42 hk42 k52 hk52 x1 x2 x3 v_firstPair v_kindOf v_newKind v_signs H locs ls hl hG h
    unfold M_partOnce_n52 at h
    refine lv_iload_n hx hb dX9_partOnce_52 rfl (lv_at hl 3 rfl) ?_
    refine lv_aload_n hx hb dX9_partOnce_53 rfl (lv_at hl 0 rfl) ?_
    refine gx_get (v := .int (σ.1 3203)) (C := RX9) (T := TX9) (N := 44) hx hb hts hinX9 hown hK hG (ga_50 g _) rfl 3 (by decide) hw0 rfl rfl dX9_partOnce_54 ?_
    refine lv_icmp_ge (tgt := 131) hx hb dX9_partOnce_57 (by decide) (fun c12 => ?_) (fun c12 => ?_)
    · have h := ite_t c12 h
      exact n131 k42 hk42 x1 x2 v_firstPair v_kindOf v_newKind v_signs _ _ _ (lv_sub hl [0, 1, 2] rfl) hG h
    · have h := ite_f c12 h
      refine lv_bipush (v := (32 : Int32)) hx hb dX9_partOnce_60 (by decide) ?_
      refine lv_iload_n hx hb dX9_partOnce_62 rfl (lv_at hl 2 rfl) ?_
      refine lv_imul hx hb dX9_partOnce_63 ?_
      refine lv_iload_n hx hb dX9_partOnce_64 rfl (lv_at hl 3 rfl) ?_
      refine lv_iadd hx hb dX9_partOnce_65 ?_
      refine lv_istore (lv' := [(4, .int (((32 : Int32) * x2) + x3)), (0, .ref (g.2.1 50)), (1, .int x1), (2, .int x2), (3, .int x3)]) hx hb dX9_partOnce_66 hl (Nat.le_of_ble_eq_true rfl) rfl (fun ls hl => ?_)
      refine lv_iconst (v := (0 : Int32)) hx hb dX9_partOnce_68 (by decide) ?_
      refine lv_istore (lv' := [(5, .int (0 : Int32)), (4, .int (((32 : Int32) * x2) + x3)), (0, .ref (g.2.1 50)), (1, .int x1), (2, .int x2), (3, .int x3)]) hx hb dX9_partOnce_69 hl (Nat.le_of_ble_eq_true rfl) rfl (fun ls hl => ?_)
      exact l71 k52 hk52 FUEL x1 x2 x3 (((32 : Int32) * x2) + x3) (0 : Int32) v_firstPair v_kindOf v_newKind v_signs _ _ _ (lv_sub hl [2, 3, 4, 5, 1, 0] rfl) hG h
  have l52 : ∀ (k42 : Int32 → Int32 → (Nat → Int32) → (Nat → Int32) → (Nat → Int32) → (Nat → Int32) → Option (Int32 × (Nat → Int32) × (Nat → Int32) × (Nat → Int32) × (Nat → Int32))) (hk42 : ∀ (x1 : Int32) (x2 : Int32) (v_firstPair : Nat → Int32) (v_kindOf : Nat → Int32) (v_newKind : Nat → Int32) (v_signs : Nat → Int32) (H : Heap) (locs : List Loc) (ls : Array Slot), lv_has ls 6 [(0, .ref (g.2.1 50)), (1, .int x1), (2, .int x2)] → GW g s (mkS σ [] [] [(81, v_firstPair), (78, v_kindOf), (79, v_newKind), (80, v_signs)] []) H locs → k42 x1 x2 v_firstPair v_kindOf v_newKind v_signs = some (r, w_firstPair, w_kindOf, w_newKind, w_signs) → Wg p l e 1 26 s m args below meth c g (some (.int r)) (mkS σ [] [] [(81, w_firstPair), (78, w_kindOf), (79, w_newKind), (80, w_signs)] []) H locs (F0 m 42 ls [])) (F : Nat) (x1 : Int32) (x2 : Int32) (x3 : Int32) (v_firstPair : Nat → Int32) (v_kindOf : Nat → Int32) (v_newKind : Nat → Int32) (v_signs : Nat → Int32) (H : Heap) (locs : List Loc) (ls : Array Slot), lv_has ls 6 [(0, .ref (g.2.1 50)), (1, .int x1), (2, .int x2), (3, .int x3)] → GW g s (mkS σ [] [] [(81, v_firstPair), (78, v_kindOf), (79, v_newKind), (80, v_signs)] []) H locs → M_partOnce_l52 k42 (σ.1 3203) F x1 x2 x3 v_firstPair v_kindOf v_newKind v_signs = some (r, w_firstPair, w_kindOf, w_newKind, w_signs) → Wg p l e 1 26 s m args below meth c g (some (.int r)) (mkS σ [] [] [(81, w_firstPair), (78, w_kindOf), (79, w_newKind), (80, w_signs)] []) H locs (F0 m 52 ls []) := by
    intro k42 hk42 F
    induction F with
    | zero => intro x1 x2 x3 v_firstPair v_kindOf v_newKind v_signs H locs ls hl hG h; exact no_some h
    | succ F ih => intro x1 x2 x3 v_firstPair v_kindOf v_newKind v_signs H locs ls hl hG h; exact n52 k42 hk42 (fun x1 x2 x3 v_firstPair v_kindOf v_newKind v_signs => M_partOnce_l52 k42 (σ.1 3203) F x1 x2 x3 v_firstPair v_kindOf v_newKind v_signs) ih x1 x2 x3 v_firstPair v_kindOf v_newKind v_signs H locs ls hl hG h
  have n164 : ∀ (x1 : Int32) (v_firstPair : Nat → Int32) (v_kindOf : Nat → Int32) (v_newKind : Nat → Int32) (v_signs : Nat → Int32) (H : Heap) (locs : List Loc) (ls : Array Slot), lv_has ls 6 [(1, .int x1)] → GW g s (mkS σ [] [] [(81, v_firstPair), (78, v_kindOf), (79, v_newKind), (80, v_signs)] []) H locs → M_partOnce_n164 x1 v_firstPair v_kindOf v_newKind v_signs = some (r, w_firstPair, w_kindOf, w_newKind, w_signs) → Wg p l e 1 26 s m args below meth c g (some (.int r)) (mkS σ [] [] [(81, w_firstPair), (78, w_kindOf), (79, w_newKind), (80, w_signs)] []) H locs (F0 m 164 ls []) := by
    intro x1 v_firstPair v_kindOf v_newKind v_signs H locs ls hl hG h
    unfold M_partOnce_n164 at h
    refine lv_iload_n hx hb dX9_partOnce_164 rfl (lv_at hl 0 rfl) ?_
    cases h
    exact gx_iret hx hb hr hlocks hG dX9_partOnce_165
  have n139 : ∀ (k139 : Int32 → Int32 → (Nat → Int32) → (Nat → Int32) → (Nat → Int32) → (Nat → Int32) → Option (Int32 × (Nat → Int32) × (Nat → Int32) × (Nat → Int32) × (Nat → Int32))) (hk139 : ∀ (x1 : Int32) (x2 : Int32) (v_firstPair : Nat → Int32) (v_kindOf : Nat → Int32) (v_newKind : Nat → Int32) (v_signs : Nat → Int32) (H : Heap) (locs : List Loc) (ls : Array Slot), lv_has ls 6 [(0, .ref (g.2.1 50)), (1, .int x1), (2, .int x2)] → GW g s (mkS σ [] [] [(81, v_firstPair), (78, v_kindOf), (79, v_newKind), (80, v_signs)] []) H locs → k139 x1 x2 v_firstPair v_kindOf v_newKind v_signs = some (r, w_firstPair, w_kindOf, w_newKind, w_signs) → Wg p l e 1 26 s m args below meth c g (some (.int r)) (mkS σ [] [] [(81, w_firstPair), (78, w_kindOf), (79, w_newKind), (80, w_signs)] []) H locs (F0 m 139 ls [])) (x1 : Int32) (x2 : Int32) (v_firstPair : Nat → Int32) (v_kindOf : Nat → Int32) (v_newKind : Nat → Int32) (v_signs : Nat → Int32) (H : Heap) (locs : List Loc) (ls : Array Slot), lv_has ls 6 [(0, .ref (g.2.1 50)), (1, .int x1), (2, .int x2)] → GW g s (mkS σ [] [] [(81, v_firstPair), (78, v_kindOf), (79, v_newKind), (80, v_signs)] []) H locs → M_partOnce_n139 k139 x1 x2 v_firstPair v_kindOf v_newKind v_signs = some (r, w_firstPair, w_kindOf, w_newKind, w_signs) → Wg p l e 1 26 s m args below meth c g (some (.int r)) (mkS σ [] [] [(81, w_firstPair), (78, w_kindOf), (79, w_newKind), (80, w_signs)] []) H locs (F0 m 139 ls []) := by
    intro k139 hk139 x1 x2 v_firstPair v_kindOf v_newKind v_signs H locs ls hl hG h
    unfold M_partOnce_n139 at h
    refine lv_iload_n hx hb dX9_partOnce_139 rfl (lv_at hl 2 rfl) ?_
    refine lv_sipush (v := (1024 : Int32)) hx hb dX9_partOnce_140 (by decide) ?_
    refine lv_icmp_ge (tgt := 164) hx hb dX9_partOnce_143 (by decide) (fun c13 => ?_) (fun c13 => ?_)
    · have h := ite_t c13 h
      exact n164 x1 v_firstPair v_kindOf v_newKind v_signs _ _ _ (lv_sub hl [1] rfl) hG h
    · have h := ite_f c13 h
      refine lv_aload_n hx hb dX9_partOnce_146 rfl (lv_at hl 0 rfl) ?_
      refine gx_get (v := .ref (g.2.1 78)) (C := RX9) (T := TX9) (N := 44) hx hb hts hinX9 hown hK hG (ga_50 g _) rfl 39 (by decide) hw3 rfl rfl dX9_partOnce_147 ?_
      refine lv_iload_n hx hb dX9_partOnce_150 rfl (lv_at hl 2 rfl) ?_
      refine lv_aload_n hx hb dX9_partOnce_151 rfl (lv_at hl 0 rfl) ?_
      refine gx_get (v := .ref (g.2.1 79)) (C := RX9) (T := TX9) (N := 44) hx hb hts hinX9 hown hK hG (ga_50 g _) rfl 40 (by decide) hw1 rfl rfl dX9_partOnce_152 ?_
      refine lv_iload_n hx hb dX9_partOnce_155 rfl (lv_at hl 2 rfl) ?_
      obtain ⟨hg14, h⟩ := gd_some h
      refine gx_iald (f := v_newKind) hx hb hK hG (ga_79 g _) hg14 dX9_partOnce_156 ?_
      refine gx_iast (σ' := (mkS σ [] [] [(81, v_firstPair), (78, (upd v_kindOf (x2.toNatClampNeg) (v_newKind (x2.toNatClampNeg)))), (79, v_newKind), (80, v_signs)] [])) (f := v_kindOf) hx hb hK hG (ga_78 g _) hg14 ((gs_78 g _ _).trans (congrArg (g_cells g) (mk_c 1 rfl rfl))) dX9_partOnce_157 (fun H locs hG => ?_)
      refine lv_iinc (v := (x2 + (1 : Int32))) (lv' := [(2, .int (x2 + (1 : Int32))), (0, .ref (g.2.1 50)), (1, .int x1)]) hx hb dX9_partOnce_158 hl (k := 2) rfl (congrArg (fun z => x2 + z) (by decide)) (Nat.le_of_ble_eq_true rfl) rfl (fun ls hl => ?_)
      refine lv_goto (tgt := 139) hx hb dX9_partOnce_161 (by decide) ?_
      exact hk139 x1 (x2 + (1 : Int32)) v_firstPair (upd v_kindOf (x2.toNatClampNeg) (v_newKind (x2.toNatClampNeg))) v_newKind v_signs _ _ _ (lv_sub hl [1, 2, 0] rfl) hG h
  have l139 : ∀  (F : Nat) (x1 : Int32) (x2 : Int32) (v_firstPair : Nat → Int32) (v_kindOf : Nat → Int32) (v_newKind : Nat → Int32) (v_signs : Nat → Int32) (H : Heap) (locs : List Loc) (ls : Array Slot), lv_has ls 6 [(0, .ref (g.2.1 50)), (1, .int x1), (2, .int x2)] → GW g s (mkS σ [] [] [(81, v_firstPair), (78, v_kindOf), (79, v_newKind), (80, v_signs)] []) H locs → M_partOnce_l139 F x1 x2 v_firstPair v_kindOf v_newKind v_signs = some (r, w_firstPair, w_kindOf, w_newKind, w_signs) → Wg p l e 1 26 s m args below meth c g (some (.int r)) (mkS σ [] [] [(81, w_firstPair), (78, w_kindOf), (79, w_newKind), (80, w_signs)] []) H locs (F0 m 139 ls []) := by
    intro F
    induction F with
    | zero => intro x1 x2 v_firstPair v_kindOf v_newKind v_signs H locs ls hl hG h; exact no_some h
    | succ F ih => intro x1 x2 v_firstPair v_kindOf v_newKind v_signs H locs ls hl hG h; exact n139 (fun x1 x2 v_firstPair v_kindOf v_newKind v_signs => M_partOnce_l139 F x1 x2 v_firstPair v_kindOf v_newKind v_signs) ih x1 x2 v_firstPair v_kindOf v_newKind v_signs H locs ls hl hG h
  have n137 : ∀ (x1 : Int32) (v_firstPair : Nat → Int32) (v_kindOf : Nat → Int32) (v_newKind : Nat → Int32) (v_signs : Nat → Int32) (H : Heap) (locs : List Loc) (ls : Array Slot), lv_has ls 6 [(0, .ref (g.2.1 50)), (1, .int x1)] → GW g s (mkS σ [] [] [(81, v_firstPair), (78, v_kindOf), (79, v_newKind), (80, v_signs)] []) H locs → M_partOnce_n137 x1 v_firstPair v_kindOf v_newKind v_signs = some (r, w_firstPair, w_kindOf, w_newKind, w_signs) → Wg p l e 1 26 s m args below meth c g (some (.int r)) (mkS σ [] [] [(81, w_firstPair), (78, w_kindOf), (79, w_newKind), (80, w_signs)] []) H locs (F0 m 137 ls []) := by
    intro x1 v_firstPair v_kindOf v_newKind v_signs H locs ls hl hG h
    unfold M_partOnce_n137 at h
    refine lv_iconst (v := (0 : Int32)) hx hb dX9_partOnce_137 (by decide) ?_
    refine lv_istore_n (lv' := [(2, .int (0 : Int32)), (0, .ref (g.2.1 50)), (1, .int x1)]) hx hb dX9_partOnce_138 rfl hl (Nat.le_of_ble_eq_true rfl) rfl (fun ls hl => ?_)
    exact l139 FUEL x1 (0 : Int32) v_firstPair v_kindOf v_newKind v_signs _ _ _ (lv_sub hl [1, 2, 0] rfl) hG h
  have n42 : ∀ (k42 : Int32 → Int32 → (Nat → Int32) → (Nat → Int32) → (Nat → Int32) → (Nat → Int32) → Option (Int32 × (Nat → Int32) × (Nat → Int32) × (Nat → Int32) × (Nat → Int32))) (hk42 : ∀ (x1 : Int32) (x2 : Int32) (v_firstPair : Nat → Int32) (v_kindOf : Nat → Int32) (v_newKind : Nat → Int32) (v_signs : Nat → Int32) (H : Heap) (locs : List Loc) (ls : Array Slot), lv_has ls 6 [(0, .ref (g.2.1 50)), (1, .int x1), (2, .int x2)] → GW g s (mkS σ [] [] [(81, v_firstPair), (78, v_kindOf), (79, v_newKind), (80, v_signs)] []) H locs → k42 x1 x2 v_firstPair v_kindOf v_newKind v_signs = some (r, w_firstPair, w_kindOf, w_newKind, w_signs) → Wg p l e 1 26 s m args below meth c g (some (.int r)) (mkS σ [] [] [(81, w_firstPair), (78, w_kindOf), (79, w_newKind), (80, w_signs)] []) H locs (F0 m 42 ls [])) (x1 : Int32) (x2 : Int32) (v_firstPair : Nat → Int32) (v_kindOf : Nat → Int32) (v_newKind : Nat → Int32) (v_signs : Nat → Int32) (H : Heap) (locs : List Loc) (ls : Array Slot), lv_has ls 6 [(0, .ref (g.2.1 50)), (1, .int x1), (2, .int x2)] → GW g s (mkS σ [] [] [(81, v_firstPair), (78, v_kindOf), (79, v_newKind), (80, v_signs)] []) H locs → M_partOnce_n42 k42 (σ.1 3203) x1 x2 v_firstPair v_kindOf v_newKind v_signs = some (r, w_firstPair, w_kindOf, w_newKind, w_signs) → Wg p l e 1 26 s m args below meth c g (some (.int r)) (mkS σ [] [] [(81, w_firstPair), (78, w_kindOf), (79, w_newKind), (80, w_signs)] []) H locs (F0 m 42 ls []) := by
    intro k42 hk42 x1 x2 v_firstPair v_kindOf v_newKind v_signs H locs ls hl hG h
    unfold M_partOnce_n42 at h
    refine lv_iload_n hx hb dX9_partOnce_42 rfl (lv_at hl 2 rfl) ?_
    refine lv_aload_n hx hb dX9_partOnce_43 rfl (lv_at hl 0 rfl) ?_
    refine gx_get (v := .int (σ.1 3203)) (C := RX9) (T := TX9) (N := 44) hx hb hts hinX9 hown hK hG (ga_50 g _) rfl 3 (by decide) hw0 rfl rfl dX9_partOnce_44 ?_
    refine lv_icmp_ge (tgt := 137) hx hb dX9_partOnce_47 (by decide) (fun c15 => ?_) (fun c15 => ?_)
    · have h := ite_t c15 h
      exact n137 x1 v_firstPair v_kindOf v_newKind v_signs _ _ _ (lv_sub hl [0, 1] rfl) hG h
    · have h := ite_f c15 h
      refine lv_iconst (v := (0 : Int32)) hx hb dX9_partOnce_50 (by decide) ?_
      refine lv_istore_n (lv' := [(3, .int (0 : Int32)), (0, .ref (g.2.1 50)), (1, .int x1), (2, .int x2)]) hx hb dX9_partOnce_51 rfl hl (Nat.le_of_ble_eq_true rfl) rfl (fun ls hl => ?_)
      exact l52 k42 hk42 FUEL x1 x2 (0 : Int32) v_firstPair v_kindOf v_newKind v_signs _ _ _ (lv_sub hl [1, 2, 3, 0] rfl) hG h
  have l42 : ∀  (F : Nat) (x1 : Int32) (x2 : Int32) (v_firstPair : Nat → Int32) (v_kindOf : Nat → Int32) (v_newKind : Nat → Int32) (v_signs : Nat → Int32) (H : Heap) (locs : List Loc) (ls : Array Slot), lv_has ls 6 [(0, .ref (g.2.1 50)), (1, .int x1), (2, .int x2)] → GW g s (mkS σ [] [] [(81, v_firstPair), (78, v_kindOf), (79, v_newKind), (80, v_signs)] []) H locs → M_partOnce_l42 (σ.1 3203) F x1 x2 v_firstPair v_kindOf v_newKind v_signs = some (r, w_firstPair, w_kindOf, w_newKind, w_signs) → Wg p l e 1 26 s m args below meth c g (some (.int r)) (mkS σ [] [] [(81, w_firstPair), (78, w_kindOf), (79, w_newKind), (80, w_signs)] []) H locs (F0 m 42 ls []) := by
    intro F
    induction F with
    | zero => intro x1 x2 v_firstPair v_kindOf v_newKind v_signs H locs ls hl hG h; exact no_some h
    | succ F ih => intro x1 x2 v_firstPair v_kindOf v_newKind v_signs H locs ls hl hG h; exact n42 (fun x1 x2 v_firstPair v_kindOf v_newKind v_signs => M_partOnce_l42 (σ.1 3203) F x1 x2 v_firstPair v_kindOf v_newKind v_signs) ih x1 x2 v_firstPair v_kindOf v_newKind v_signs H locs ls hl hG h
  have n38 : ∀ (v_firstPair : Nat → Int32) (v_kindOf : Nat → Int32) (v_newKind : Nat → Int32) (v_signs : Nat → Int32) (H : Heap) (locs : List Loc) (ls : Array Slot), lv_has ls 6 [(0, .ref (g.2.1 50))] → GW g s (mkS σ [] [] [(81, v_firstPair), (78, v_kindOf), (79, v_newKind), (80, v_signs)] []) H locs → M_partOnce_n38 (σ.1 3203) v_firstPair v_kindOf v_newKind v_signs = some (r, w_firstPair, w_kindOf, w_newKind, w_signs) → Wg p l e 1 26 s m args below meth c g (some (.int r)) (mkS σ [] [] [(81, w_firstPair), (78, w_kindOf), (79, w_newKind), (80, w_signs)] []) H locs (F0 m 38 ls []) := by
    intro v_firstPair v_kindOf v_newKind v_signs H locs ls hl hG h
    unfold M_partOnce_n38 at h
    refine lv_iconst (v := (0 : Int32)) hx hb dX9_partOnce_38 (by decide) ?_
    refine lv_istore_n (lv' := [(1, .int (0 : Int32)), (0, .ref (g.2.1 50))]) hx hb dX9_partOnce_39 rfl hl (Nat.le_of_ble_eq_true rfl) rfl (fun ls hl => ?_)
    refine lv_iconst (v := (0 : Int32)) hx hb dX9_partOnce_40 (by decide) ?_
    refine lv_istore_n (lv' := [(2, .int (0 : Int32)), (1, .int (0 : Int32)), (0, .ref (g.2.1 50))]) hx hb dX9_partOnce_41 rfl hl (Nat.le_of_ble_eq_true rfl) rfl (fun ls hl => ?_)
    exact l42 FUEL (0 : Int32) (0 : Int32) v_firstPair v_kindOf v_newKind v_signs _ _ _ (lv_sub hl [2, 1, 0] rfl) hG h
  have n2 : ∀ (k2 : Int32 → (Nat → Int32) → (Nat → Int32) → (Nat → Int32) → (Nat → Int32) → Option (Int32 × (Nat → Int32) × (Nat → Int32) × (Nat → Int32) × (Nat → Int32))) (hk2 : ∀ (x1 : Int32) (v_firstPair : Nat → Int32) (v_kindOf : Nat → Int32) (v_newKind : Nat → Int32) (v_signs : Nat → Int32) (H : Heap) (locs : List Loc) (ls : Array Slot), lv_has ls 6 [(0, .ref (g.2.1 50)), (1, .int x1)] → GW g s (mkS σ [] [] [(81, v_firstPair), (78, v_kindOf), (79, v_newKind), (80, v_signs)] []) H locs → k2 x1 v_firstPair v_kindOf v_newKind v_signs = some (r, w_firstPair, w_kindOf, w_newKind, w_signs) → Wg p l e 1 26 s m args below meth c g (some (.int r)) (mkS σ [] [] [(81, w_firstPair), (78, w_kindOf), (79, w_newKind), (80, w_signs)] []) H locs (F0 m 2 ls [])) (x1 : Int32) (v_firstPair : Nat → Int32) (v_kindOf : Nat → Int32) (v_newKind : Nat → Int32) (v_signs : Nat → Int32) (H : Heap) (locs : List Loc) (ls : Array Slot), lv_has ls 6 [(0, .ref (g.2.1 50)), (1, .int x1)] → GW g s (mkS σ [] [] [(81, v_firstPair), (78, v_kindOf), (79, v_newKind), (80, v_signs)] []) H locs → M_partOnce_n2 k2 (σ.1 3203) x1 v_firstPair v_kindOf v_newKind v_signs = some (r, w_firstPair, w_kindOf, w_newKind, w_signs) → Wg p l e 1 26 s m args below meth c g (some (.int r)) (mkS σ [] [] [(81, w_firstPair), (78, w_kindOf), (79, w_newKind), (80, w_signs)] []) H locs (F0 m 2 ls []) := by
    intro k2 hk2 x1 v_firstPair v_kindOf v_newKind v_signs H locs ls hl hG h
    unfold M_partOnce_n2 at h
    refine lv_iload_n hx hb dX9_partOnce_2 rfl (lv_at hl 1 rfl) ?_
    refine lv_aload_n hx hb dX9_partOnce_3 rfl (lv_at hl 0 rfl) ?_
    refine gx_get (v := .int (σ.1 3203)) (C := RX9) (T := TX9) (N := 44) hx hb hts hinX9 hown hK hG (ga_50 g _) rfl 3 (by decide) hw0 rfl rfl dX9_partOnce_4 ?_
    refine lv_icmp_ge (tgt := 38) hx hb dX9_partOnce_7 (by decide) (fun c16 => ?_) (fun c16 => ?_)
    · have h := ite_t c16 h
      exact n38 v_firstPair v_kindOf v_newKind v_signs _ _ _ (lv_sub hl [0] rfl) hG h
    · have h := ite_f c16 h
      refine lv_iconst (v := (0 : Int32)) hx hb dX9_partOnce_10 (by decide) ?_
      refine lv_istore_n (lv' := [(2, .int (0 : Int32)), (0, .ref (g.2.1 50)), (1, .int x1)]) hx hb dX9_partOnce_11 rfl hl (Nat.le_of_ble_eq_true rfl) rfl (fun ls hl => ?_)
      exact l12 k2 hk2 FUEL x1 (0 : Int32) v_firstPair v_kindOf v_newKind v_signs _ _ _ (lv_sub hl [1, 2, 0] rfl) hG h
  have l2 : ∀  (F : Nat) (x1 : Int32) (v_firstPair : Nat → Int32) (v_kindOf : Nat → Int32) (v_newKind : Nat → Int32) (v_signs : Nat → Int32) (H : Heap) (locs : List Loc) (ls : Array Slot), lv_has ls 6 [(0, .ref (g.2.1 50)), (1, .int x1)] → GW g s (mkS σ [] [] [(81, v_firstPair), (78, v_kindOf), (79, v_newKind), (80, v_signs)] []) H locs → M_partOnce_l2 (σ.1 3203) F x1 v_firstPair v_kindOf v_newKind v_signs = some (r, w_firstPair, w_kindOf, w_newKind, w_signs) → Wg p l e 1 26 s m args below meth c g (some (.int r)) (mkS σ [] [] [(81, w_firstPair), (78, w_kindOf), (79, w_newKind), (80, w_signs)] []) H locs (F0 m 2 ls []) := by
    intro F
    induction F with
    | zero => intro x1 v_firstPair v_kindOf v_newKind v_signs H locs ls hl hG h; exact no_some h
    | succ F ih => intro x1 v_firstPair v_kindOf v_newKind v_signs H locs ls hl hG h; exact n2 (fun x1 v_firstPair v_kindOf v_newKind v_signs => M_partOnce_l2 (σ.1 3203) F x1 v_firstPair v_kindOf v_newKind v_signs) ih x1 v_firstPair v_kindOf v_newKind v_signs H locs ls hl hG h
  refine lv_iconst (v := (0 : Int32)) hx hb dX9_partOnce_0 (by decide) ?_
  refine lv_istore_n (lv' := [(1, .int (0 : Int32)), (0, .ref (g.2.1 50))]) hx hb dX9_partOnce_1 rfl hl (Nat.le_of_ble_eq_true rfl) rfl (fun ls hl => ?_)
  exact l2 FUEL (0 : Int32) (σ.2.2.1 81) (σ.2.2.1 78) (σ.2.2.1 79) (σ.2.2.1 80) _ _ _ (lv_sub hl [1, 0] rfl) hG h

set_option maxHeartbeats 4000000 in
set_option maxRecDepth 100000 in
theorem c_M_findKinds (l : Launch) (g : GC) (σ : St) (w_areKindsFound : Int32) (w_kindMany : Int32) (w_firstPair : Nat → Int32) (w_kindOf : Nat → Int32) (w_newKind : Nat → Int32) (w_signs : Nat → Int32) (h : M_findKinds (σ.1 3238) (σ.1 3242) (σ.1 3203) (σ.2.2.1 81) (σ.2.2.1 78) (σ.2.2.1 79) (σ.2.2.1 54) (σ.2.2.1 80) = some (w_areKindsFound, w_kindMany, w_firstPair, w_kindOf, w_newKind, w_signs)) : Cn l g yX9_findKinds wsX9_findKinds 2 51 [.ref (g.2.1 50)] σ none (mkS σ [(3238, w_areKindsFound), (3242, w_kindMany)] [] [(81, w_firstPair), (78, w_kindOf), (79, w_newKind), (80, w_signs)] []) := by
  unfold Cn
  refine Met.ofW (cc := cX9_findKinds) (maxL := 2) (ret := none) (by decide) rfl ?_
  intro p e s m args below meth c s₁ B hml hv
  obtain ⟨hargs, hP0, hK⟩ := hv
  have hx := B.exec
  have hb := B.bytes
  have hr := B.returns
  have hts := atoms_spec (ws := wsX9_findKinds) B.pre
  have hown : s.vm.findClass RX9 = some m.cls := findClass_of_methodNamed B.named
  have hlocks := B.notSynchronized
  have hS9 : CallFix p m c cX9_findKinds 2 s args wsX9_findKinds RX9 := ⟨hx, hb, hml, hown, hts⟩
  have hinX9 : ∀ w ∈ wsX90, w ∈ wsX9_findKinds := fun w h => List.mem_cons_of_mem _ (List.mem_append_right _ (h))
  have hw0 := hts (.fieldLink RX9 316 "LikeNetsModel" "kindMany" "I") (List.mem_of_getElem? (i := 4) rfl)
  have hw1 := hts (.fieldLink RX9 97 "LikeNetsModel" "kindOf" "[I") (List.mem_of_getElem? (i := 2) rfl)
  have hw2 := hts (.fieldLink RX9 19 "LikeNetsModel" "road" "[Z") (List.mem_of_getElem? (i := 3) rfl)
  have hw3 := hts (.fieldLink RX9 129 "LikeNetsModel" "areKindsFound" "Z") (List.mem_of_getElem? (i := 1) rfl)
  have hf9 : entryFrame m args 2 = _ := (congrArg (fun a => entryFrame m a 2) hargs).trans (lg_entry_eq m [.ref (g.2.1 50)] 2)
  show Wg p l e 2 51 s m args below meth c g none (mkS σ [(3238, w_areKindsFound), (3242, w_kindMany)] [] [(81, w_firstPair), (78, w_kindOf), (79, w_newKind), (80, w_signs)] []) s.heap [] (entryFrame m args 2)
  rw [hf9]
  have hl := lv_entry ([.ref (g.2.1 50)]) (n := 2) (Nat.le_of_ble_eq_true rfl)
  generalize (lg_sl ([.ref (g.2.1 50)]) ++ List.replicate (2 - (lg_sl ([.ref (g.2.1 50)])).length) Slot.unset).toArray = ls at hl ⊢
  have hl : lv_has ls 2 [(0, .ref (g.2.1 50))] := hl
  have hG : GW g s σ s.heap [] := ⟨hP0, va_S.rf⟩
  have hG : GW g s (mkS σ [(3238, (σ.1 3238)), (3242, (σ.1 3242))] [] [(81, (σ.2.2.1 81)), (78, (σ.2.2.1 78)), (79, (σ.2.2.1 79)), (80, (σ.2.2.1 80))] []) s.heap [] := GW_self [3238, 3242] [] [81, 78, 79, 80] [] hG
  unfold M_findKinds at h
  have n56 : ∀ (k15 : Int32 → Int32 → Int32 → (Nat → Int32) → (Nat → Int32) → (Nat → Int32) → (Nat → Int32) → Option (Int32 × Int32 × (Nat → Int32) × (Nat → Int32) × (Nat → Int32) × (Nat → Int32))) (hk15 : ∀ (x1 : Int32) (v_areKindsFound : Int32) (v_kindMany : Int32) (v_firstPair : Nat → Int32) (v_kindOf : Nat → Int32) (v_newKind : Nat → Int32) (v_signs : Nat → Int32) (H : Heap) (locs : List Loc) (ls : Array Slot), lv_has ls 2 [(0, .ref (g.2.1 50)), (1, .int x1)] → GW g s (mkS σ [(3238, v_areKindsFound), (3242, v_kindMany)] [] [(81, v_firstPair), (78, v_kindOf), (79, v_newKind), (80, v_signs)] []) H locs → k15 x1 v_areKindsFound v_kindMany v_firstPair v_kindOf v_newKind v_signs = some (w_areKindsFound, w_kindMany, w_firstPair, w_kindOf, w_newKind, w_signs) → Wg p l e 2 51 s m args below meth c g none (mkS σ [(3238, w_areKindsFound), (3242, w_kindMany)] [] [(81, w_firstPair), (78, w_kindOf), (79, w_newKind), (80, w_signs)] []) H locs (F0 m 15 ls [])) (x1 : Int32) (t1 : Int32) (t2 : Int32) (v_areKindsFound : Int32) (v_kindMany : Int32) (v_firstPair : Nat → Int32) (v_kindOf : Nat → Int32) (v_newKind : Nat → Int32) (v_signs : Nat → Int32) (H : Heap) (locs : List Loc) (ls : Array Slot), lv_has ls 2 [(0, .ref (g.2.1 50)), (1, .int x1)] → GW g s (mkS σ [(3238, v_areKindsFound), (3242, v_kindMany)] [] [(81, v_firstPair), (78, v_kindOf), (79, v_newKind), (80, v_signs)] []) H locs → M_findKinds_n56 k15 x1 t1 t2 v_areKindsFound v_kindMany v_firstPair v_kindOf v_newKind v_signs = some (w_areKindsFound, w_kindMany, w_firstPair, w_kindOf, w_newKind, w_signs) → Wg p l e 2 51 s m args below meth c g none (mkS σ [(3238, w_areKindsFound), (3242, w_kindMany)] [] [(81, w_firstPair), (78, w_kindOf), (79, w_newKind), (80, w_signs)] []) H locs (F0 m 56 ls [.int t2, .int t1, .ref (g.2.1 78)]) := by
    intro k15 hk15 x1 t1 t2 v_areKindsFound v_kindMany v_firstPair v_kindOf v_newKind v_signs H locs ls hl hG h
    unfold M_findKinds_n56 at h
    obtain ⟨hg1, h⟩ := gd_some h
    refine gx_iast (σ' := (mkS σ [(3238, v_areKindsFound), (3242, v_kindMany)] [] [(81, v_firstPair), (78, (upd v_kindOf (t1.toNatClampNeg) t2)), (79, v_newKind), (80, v_signs)] [])) (f := v_kindOf) hx hb hK hG (ga_78 g _) hg1 ((gs_78 g _ _).trans (congrArg (g_cells g) (mk_c 1 rfl rfl))) dX9_findKinds_56 (fun H locs hG => ?_)
    refine lv_iinc (v := (x1 + (1 : Int32))) (lv' := [(1, .int (x1 + (1 : Int32))), (0, .ref (g.2.1 50))]) hx hb dX9_findKinds_57 hl (k := 1) rfl (congrArg (fun z => x1 + z) (by decide)) (Nat.le_of_ble_eq_true rfl) rfl (fun ls hl => ?_)
    refine lv_goto (tgt := 15) hx hb dX9_findKinds_60 (by decide) ?_
    exact hk15 (x1 + (1 : Int32)) v_areKindsFound v_kindMany v_firstPair (upd v_kindOf (t1.toNatClampNeg) t2) v_newKind v_signs _ _ _ (lv_sub hl [1, 0] rfl) hG h
  have n91 : ∀ (v_areKindsFound : Int32) (v_kindMany : Int32) (v_firstPair : Nat → Int32) (v_kindOf : Nat → Int32) (v_newKind : Nat → Int32) (v_signs : Nat → Int32) (H : Heap) (locs : List Loc) (ls : Array Slot), lv_has ls 2 [] → GW g s (mkS σ [(3238, v_areKindsFound), (3242, v_kindMany)] [] [(81, v_firstPair), (78, v_kindOf), (79, v_newKind), (80, v_signs)] []) H locs → M_findKinds_n91 v_areKindsFound v_kindMany v_firstPair v_kindOf v_newKind v_signs = some (w_areKindsFound, w_kindMany, w_firstPair, w_kindOf, w_newKind, w_signs) → Wg p l e 2 51 s m args below meth c g none (mkS σ [(3238, w_areKindsFound), (3242, w_kindMany)] [] [(81, w_firstPair), (78, w_kindOf), (79, w_newKind), (80, w_signs)] []) H locs (F0 m 91 ls []) := by
    intro v_areKindsFound v_kindMany v_firstPair v_kindOf v_newKind v_signs H locs ls hl hG h
    unfold M_findKinds_n91 at h
    cases h
    exact gx_vret hx hb hr hlocks hG dX9_findKinds_91
  have n70 : ∀ (k70 : Int32 → Int32 → Int32 → (Nat → Int32) → (Nat → Int32) → (Nat → Int32) → (Nat → Int32) → Option (Int32 × Int32 × (Nat → Int32) × (Nat → Int32) × (Nat → Int32) × (Nat → Int32))) (hk70 : ∀ (x1 : Int32) (v_areKindsFound : Int32) (v_kindMany : Int32) (v_firstPair : Nat → Int32) (v_kindOf : Nat → Int32) (v_newKind : Nat → Int32) (v_signs : Nat → Int32) (H : Heap) (locs : List Loc) (ls : Array Slot), lv_has ls 2 [(0, .ref (g.2.1 50)), (1, .int x1)] → GW g s (mkS σ [(3238, v_areKindsFound), (3242, v_kindMany)] [] [(81, v_firstPair), (78, v_kindOf), (79, v_newKind), (80, v_signs)] []) H locs → k70 x1 v_areKindsFound v_kindMany v_firstPair v_kindOf v_newKind v_signs = some (w_areKindsFound, w_kindMany, w_firstPair, w_kindOf, w_newKind, w_signs) → Wg p l e 2 51 s m args below meth c g none (mkS σ [(3238, w_areKindsFound), (3242, w_kindMany)] [] [(81, w_firstPair), (78, w_kindOf), (79, w_newKind), (80, w_signs)] []) H locs (F0 m 70 ls [])) (x1 : Int32) (v_areKindsFound : Int32) (v_kindMany : Int32) (v_firstPair : Nat → Int32) (v_kindOf : Nat → Int32) (v_newKind : Nat → Int32) (v_signs : Nat → Int32) (H : Heap) (locs : List Loc) (ls : Array Slot), lv_has ls 2 [(0, .ref (g.2.1 50)), (1, .int x1)] → GW g s (mkS σ [(3238, v_areKindsFound), (3242, v_kindMany)] [] [(81, v_firstPair), (78, v_kindOf), (79, v_newKind), (80, v_signs)] []) H locs → M_findKinds_n70 k70 (σ.1 3203) x1 v_areKindsFound v_kindMany v_firstPair v_kindOf v_newKind v_signs = some (w_areKindsFound, w_kindMany, w_firstPair, w_kindOf, w_newKind, w_signs) → Wg p l e 2 51 s m args below meth c g none (mkS σ [(3238, w_areKindsFound), (3242, w_kindMany)] [] [(81, w_firstPair), (78, w_kindOf), (79, w_newKind), (80, w_signs)] []) H locs (F0 m 70 ls []) := by
    intro k70 hk70 x1 v_areKindsFound v_kindMany v_firstPair v_kindOf v_newKind v_signs H locs ls hl hG h
    unfold M_findKinds_n70 at h
    refine lv_iload_n hx hb dX9_findKinds_70 rfl (lv_at hl 1 rfl) ?_
    refine lv_aload_n hx hb dX9_findKinds_71 rfl (lv_at hl 0 rfl) ?_
    refine gx_get (v := .int v_kindMany) (C := RX9) (T := TX9) (N := 44) hx hb hts hinX9 hown hK hG (ga_50 g _) rfl 42 (by decide) hw0 rfl rfl dX9_findKinds_72 ?_
    refine lv_icmp_eq (tgt := 91) hx hb dX9_findKinds_75 (by decide) (fun c2 => ?_) (fun c2 => ?_)
    · have h := ite_t c2 h
      exact n91 v_areKindsFound v_kindMany v_firstPair v_kindOf v_newKind v_signs _ _ _ (lv_sub hl [] rfl) hG h
    · have h := ite_f c2 h
      refine lv_aload_n hx hb dX9_findKinds_78 rfl (lv_at hl 0 rfl) ?_
      refine lv_iload_n hx hb dX9_findKinds_79 rfl (lv_at hl 1 rfl) ?_
      refine gx_put (σ' := (mkS σ [(3238, v_areKindsFound), (3242, x1)] [] [(81, v_firstPair), (78, v_kindOf), (79, v_newKind), (80, v_signs)] [])) (C := RX9) (T := TX9) (N := 44) hx hb hts hinX9 tyX9 tyX9_ok nmX9 hown hK hG (ga_50 g _) rfl 42 (by decide) hw0 rfl rfl rfl rfl (Nat.le_of_ble_eq_true rfl) ((gf_3242 g _ _).trans (congrArg (g_cells g) (mk_a 1 rfl rfl))) dX9_findKinds_80 (fun H locs hG => ?_)
      refine lv_aload_n hx hb dX9_findKinds_83 rfl (lv_at hl 0 rfl) ?_
      obtain ⟨z3, hc4, h⟩ := bnd_some h
      refine gx_cV (σ' := (mkS σ [(3238, v_areKindsFound), (3242, x1)] [] [(81, z3.2.1), (78, z3.2.2.1), (79, z3.2.2.2.1), (80, z3.2.2.2.2)] [])) (r := (some (.int z3.1))) (rest := []) (As := []) hS9 (c_M_partOnce l g (mkS σ [(3238, v_areKindsFound), (3242, x1)] [] [(81, v_firstPair), (78, v_kindOf), (79, v_newKind), (80, v_signs)] []) z3.1 z3.2.1 z3.2.2.1 z3.2.2.2.1 z3.2.2.2.2 hc4) (mk_mk rfl rfl rfl rfl) (cwV 0 hts gX9_findKinds_X9_partOnce rfl rfl rfl (by decide +kernel) ⟨Nat.le_of_ble_eq_true rfl, Nat.le_of_ble_eq_true rfl⟩) hK hG (ga_50 g _) rfl rfl rfl hl.1 rfl (Nat.le_of_ble_eq_true rfl) dX9_findKinds_84 (fun H locs hG => ?_)
      refine W.eq (g2 := F0 m 87 ls [.int z3.1]) rfl ?_
      refine lv_istore_n (lv' := [(1, .int z3.1), (0, .ref (g.2.1 50))]) hx hb dX9_findKinds_87 rfl hl (Nat.le_of_ble_eq_true rfl) rfl (fun ls hl => ?_)
      refine lv_goto (tgt := 70) hx hb dX9_findKinds_88 (by decide) ?_
      exact hk70 z3.1 v_areKindsFound x1 z3.2.1 z3.2.2.1 z3.2.2.2.1 z3.2.2.2.2 _ _ _ (lv_sub hl [1, 0] rfl) hG h
  have l70 : ∀  (F : Nat) (x1 : Int32) (v_areKindsFound : Int32) (v_kindMany : Int32) (v_firstPair : Nat → Int32) (v_kindOf : Nat → Int32) (v_newKind : Nat → Int32) (v_signs : Nat → Int32) (H : Heap) (locs : List Loc) (ls : Array Slot), lv_has ls 2 [(0, .ref (g.2.1 50)), (1, .int x1)] → GW g s (mkS σ [(3238, v_areKindsFound), (3242, v_kindMany)] [] [(81, v_firstPair), (78, v_kindOf), (79, v_newKind), (80, v_signs)] []) H locs → M_findKinds_l70 (σ.1 3203) F x1 v_areKindsFound v_kindMany v_firstPair v_kindOf v_newKind v_signs = some (w_areKindsFound, w_kindMany, w_firstPair, w_kindOf, w_newKind, w_signs) → Wg p l e 2 51 s m args below meth c g none (mkS σ [(3238, w_areKindsFound), (3242, w_kindMany)] [] [(81, w_firstPair), (78, w_kindOf), (79, w_newKind), (80, w_signs)] []) H locs (F0 m 70 ls []) := by
    intro F
    induction F with
    | zero => intro x1 v_areKindsFound v_kindMany v_firstPair v_kindOf v_newKind v_signs H locs ls hl hG h; exact no_some h
    | succ F ih => intro x1 v_areKindsFound v_kindMany v_firstPair v_kindOf v_newKind v_signs H locs ls hl hG h; exact n70 (fun x1 v_areKindsFound v_kindMany v_firstPair v_kindOf v_newKind v_signs => M_findKinds_l70 (σ.1 3203) F x1 v_areKindsFound v_kindMany v_firstPair v_kindOf v_newKind v_signs) ih x1 v_areKindsFound v_kindMany v_firstPair v_kindOf v_newKind v_signs H locs ls hl hG h
  have n63 : ∀ (v_areKindsFound : Int32) (v_kindMany : Int32) (v_firstPair : Nat → Int32) (v_kindOf : Nat → Int32) (v_newKind : Nat → Int32) (v_signs : Nat → Int32) (H : Heap) (locs : List Loc) (ls : Array Slot), lv_has ls 2 [(0, .ref (g.2.1 50))] → GW g s (mkS σ [(3238, v_areKindsFound), (3242, v_kindMany)] [] [(81, v_firstPair), (78, v_kindOf), (79, v_newKind), (80, v_signs)] []) H locs → M_findKinds_n63 (σ.1 3203) v_areKindsFound v_kindMany v_firstPair v_kindOf v_newKind v_signs = some (w_areKindsFound, w_kindMany, w_firstPair, w_kindOf, w_newKind, w_signs) → Wg p l e 2 51 s m args below meth c g none (mkS σ [(3238, w_areKindsFound), (3242, w_kindMany)] [] [(81, w_firstPair), (78, w_kindOf), (79, w_newKind), (80, w_signs)] []) H locs (F0 m 63 ls []) := by
    intro v_areKindsFound v_kindMany v_firstPair v_kindOf v_newKind v_signs H locs ls hl hG h
    unfold M_findKinds_n63 at h
    refine lv_aload_n hx hb dX9_findKinds_63 rfl (lv_at hl 0 rfl) ?_
    refine lv_iconst (v := (-1 : Int32)) hx hb dX9_findKinds_64 (by decide) ?_
    refine gx_put (σ' := (mkS σ [(3238, v_areKindsFound), (3242, (-1 : Int32))] [] [(81, v_firstPair), (78, v_kindOf), (79, v_newKind), (80, v_signs)] [])) (C := RX9) (T := TX9) (N := 44) hx hb hts hinX9 tyX9 tyX9_ok nmX9 hown hK hG (ga_50 g _) rfl 42 (by decide) hw0 rfl rfl rfl rfl (Nat.le_of_ble_eq_true rfl) ((gf_3242 g _ _).trans (congrArg (g_cells g) (mk_a 1 rfl rfl))) dX9_findKinds_65 (fun H locs hG => ?_)
    refine lv_iconst (v := (0 : Int32)) hx hb dX9_findKinds_68 (by decide) ?_
    refine lv_istore_n (lv' := [(1, .int (0 : Int32)), (0, .ref (g.2.1 50))]) hx hb dX9_findKinds_69 rfl hl (Nat.le_of_ble_eq_true rfl) rfl (fun ls hl => ?_)
    exact l70 FUEL (0 : Int32) v_areKindsFound (-1 : Int32) v_firstPair v_kindOf v_newKind v_signs _ _ _ (lv_sub hl [1, 0] rfl) hG h
  have n15 : ∀ (k15 : Int32 → Int32 → Int32 → (Nat → Int32) → (Nat → Int32) → (Nat → Int32) → (Nat → Int32) → Option (Int32 × Int32 × (Nat → Int32) × (Nat → Int32) × (Nat → Int32) × (Nat → Int32))) (hk15 : ∀ (x1 : Int32) (v_areKindsFound : Int32) (v_kindMany : Int32) (v_firstPair : Nat → Int32) (v_kindOf : Nat → Int32) (v_newKind : Nat → Int32) (v_signs : Nat → Int32) (H : Heap) (locs : List Loc) (ls : Array Slot), lv_has ls 2 [(0, .ref (g.2.1 50)), (1, .int x1)] → GW g s (mkS σ [(3238, v_areKindsFound), (3242, v_kindMany)] [] [(81, v_firstPair), (78, v_kindOf), (79, v_newKind), (80, v_signs)] []) H locs → k15 x1 v_areKindsFound v_kindMany v_firstPair v_kindOf v_newKind v_signs = some (w_areKindsFound, w_kindMany, w_firstPair, w_kindOf, w_newKind, w_signs) → Wg p l e 2 51 s m args below meth c g none (mkS σ [(3238, w_areKindsFound), (3242, w_kindMany)] [] [(81, w_firstPair), (78, w_kindOf), (79, w_newKind), (80, w_signs)] []) H locs (F0 m 15 ls [])) (x1 : Int32) (v_areKindsFound : Int32) (v_kindMany : Int32) (v_firstPair : Nat → Int32) (v_kindOf : Nat → Int32) (v_newKind : Nat → Int32) (v_signs : Nat → Int32) (H : Heap) (locs : List Loc) (ls : Array Slot), lv_has ls 2 [(0, .ref (g.2.1 50)), (1, .int x1)] → GW g s (mkS σ [(3238, v_areKindsFound), (3242, v_kindMany)] [] [(81, v_firstPair), (78, v_kindOf), (79, v_newKind), (80, v_signs)] []) H locs → M_findKinds_n15 k15 (σ.1 3203) (σ.2.2.1 54) x1 v_areKindsFound v_kindMany v_firstPair v_kindOf v_newKind v_signs = some (w_areKindsFound, w_kindMany, w_firstPair, w_kindOf, w_newKind, w_signs) → Wg p l e 2 51 s m args below meth c g none (mkS σ [(3238, w_areKindsFound), (3242, w_kindMany)] [] [(81, w_firstPair), (78, w_kindOf), (79, w_newKind), (80, w_signs)] []) H locs (F0 m 15 ls []) := by
    intro k15 hk15 x1 v_areKindsFound v_kindMany v_firstPair v_kindOf v_newKind v_signs H locs ls hl hG h
    unfold M_findKinds_n15 at h
    refine lv_iload_n hx hb dX9_findKinds_15 rfl (lv_at hl 1 rfl) ?_
    refine lv_sipush (v := (1024 : Int32)) hx hb dX9_findKinds_16 (by decide) ?_
    refine lv_icmp_ge (tgt := 63) hx hb dX9_findKinds_19 (by decide) (fun c5 => ?_) (fun c5 => ?_)
    · have h := ite_t c5 h
      exact n63 v_areKindsFound v_kindMany v_firstPair v_kindOf v_newKind v_signs _ _ _ (lv_sub hl [0] rfl) hG h
    · have h := ite_f c5 h
      refine lv_aload_n hx hb dX9_findKinds_22 rfl (lv_at hl 0 rfl) ?_
      refine gx_get (v := .ref (g.2.1 78)) (C := RX9) (T := TX9) (N := 44) hx hb hts hinX9 hown hK hG (ga_50 g _) rfl 39 (by decide) hw1 rfl rfl dX9_findKinds_23 ?_
      refine lv_iload_n hx hb dX9_findKinds_26 rfl (lv_at hl 1 rfl) ?_
      refine lv_iload_n hx hb dX9_findKinds_27 rfl (lv_at hl 1 rfl) ?_
      refine lv_bipush (v := (32 : Int32)) hx hb dX9_findKinds_28 (by decide) ?_
      refine lv_idiv hx hb dX9_findKinds_30 (by decide) ?_
      refine lv_iload_n hx hb dX9_findKinds_31 rfl (lv_at hl 1 rfl) ?_
      refine lv_bipush (v := (32 : Int32)) hx hb dX9_findKinds_32 (by decide) ?_
      refine lv_irem hx hb dX9_findKinds_34 (by decide) ?_
      refine lv_icmp_ne (tgt := 42) hx hb dX9_findKinds_35 (by decide) (fun c6 => ?_) (fun c6 => ?_)
      · have h := ite_f c6 h
        refine lv_aload_n hx hb dX9_findKinds_42 rfl (lv_at hl 0 rfl) ?_
        refine gx_get (v := .ref (g.2.1 54)) (C := RX9) (T := TX9) (N := 44) hx hb hts hinX9 hown hK hG (ga_50 g _) rfl 4 (by decide) hw2 rfl rfl dX9_findKinds_43 ?_
        refine lv_iload_n hx hb dX9_findKinds_46 rfl (lv_at hl 1 rfl) ?_
        obtain ⟨hg7, h⟩ := gd_some h
        refine gx_zald (f := (σ.2.2.1 54)) hx hb hK hG (ga_54 g _) hg7 dX9_findKinds_47 ?_
        refine lv_if_eq (tgt := 55) hx hb dX9_findKinds_48 (by decide) (fun c8 => ?_) (fun c8 => ?_)
        · have h := ite_t c8 h
          refine lv_iconst (v := (2 : Int32)) hx hb dX9_findKinds_55 (by decide) ?_
          exact n56 k15 hk15 x1 x1 (2 : Int32) v_areKindsFound v_kindMany v_firstPair v_kindOf v_newKind v_signs _ _ _ (lv_sub hl [0, 1] rfl) hG h
        · have h := ite_f c8 h
          refine lv_iconst (v := (1 : Int32)) hx hb dX9_findKinds_51 (by decide) ?_
          refine lv_goto (tgt := 56) hx hb dX9_findKinds_52 (by decide) ?_
          exact n56 k15 hk15 x1 x1 (1 : Int32) v_areKindsFound v_kindMany v_firstPair v_kindOf v_newKind v_signs _ _ _ (lv_sub hl [0, 1] rfl) hG h
      · have h := ite_t c6 h
        refine lv_iconst (v := (0 : Int32)) hx hb dX9_findKinds_38 (by decide) ?_
        refine lv_goto (tgt := 56) hx hb dX9_findKinds_39 (by decide) ?_
        exact n56 k15 hk15 x1 x1 (0 : Int32) v_areKindsFound v_kindMany v_firstPair v_kindOf v_newKind v_signs _ _ _ (lv_sub hl [0, 1] rfl) hG h
  have l15 : ∀  (F : Nat) (x1 : Int32) (v_areKindsFound : Int32) (v_kindMany : Int32) (v_firstPair : Nat → Int32) (v_kindOf : Nat → Int32) (v_newKind : Nat → Int32) (v_signs : Nat → Int32) (H : Heap) (locs : List Loc) (ls : Array Slot), lv_has ls 2 [(0, .ref (g.2.1 50)), (1, .int x1)] → GW g s (mkS σ [(3238, v_areKindsFound), (3242, v_kindMany)] [] [(81, v_firstPair), (78, v_kindOf), (79, v_newKind), (80, v_signs)] []) H locs → M_findKinds_l15 (σ.1 3203) (σ.2.2.1 54) F x1 v_areKindsFound v_kindMany v_firstPair v_kindOf v_newKind v_signs = some (w_areKindsFound, w_kindMany, w_firstPair, w_kindOf, w_newKind, w_signs) → Wg p l e 2 51 s m args below meth c g none (mkS σ [(3238, w_areKindsFound), (3242, w_kindMany)] [] [(81, w_firstPair), (78, w_kindOf), (79, w_newKind), (80, w_signs)] []) H locs (F0 m 15 ls []) := by
    intro F
    induction F with
    | zero => intro x1 v_areKindsFound v_kindMany v_firstPair v_kindOf v_newKind v_signs H locs ls hl hG h; exact no_some h
    | succ F ih => intro x1 v_areKindsFound v_kindMany v_firstPair v_kindOf v_newKind v_signs H locs ls hl hG h; exact n15 (fun x1 v_areKindsFound v_kindMany v_firstPair v_kindOf v_newKind v_signs => M_findKinds_l15 (σ.1 3203) (σ.2.2.1 54) F x1 v_areKindsFound v_kindMany v_firstPair v_kindOf v_newKind v_signs) ih x1 v_areKindsFound v_kindMany v_firstPair v_kindOf v_newKind v_signs H locs ls hl hG h
  refine lv_aload_n hx hb dX9_findKinds_0 rfl (lv_at hl 0 rfl) ?_
  refine gx_get (v := .int (σ.1 3238)) (C := RX9) (T := TX9) (N := 44) hx hb hts hinX9 hown hK hG (ga_50 g _) rfl 38 (by decide) hw3 rfl rfl dX9_findKinds_1 ?_
  refine lv_if_eq (tgt := 8) hx hb dX9_findKinds_4 (by decide) (fun c9 => ?_) (fun c9 => ?_)
  · have h := ite_t c9 h
    refine lv_aload_n hx hb dX9_findKinds_8 rfl (lv_at hl 0 rfl) ?_
    refine lv_iconst (v := (1 : Int32)) hx hb dX9_findKinds_9 (by decide) ?_
    refine gx_put (σ' := (mkS σ [(3238, (1 : Int32)), (3242, (σ.1 3242))] [] [(81, (σ.2.2.1 81)), (78, (σ.2.2.1 78)), (79, (σ.2.2.1 79)), (80, (σ.2.2.1 80))] [])) (C := RX9) (T := TX9) (N := 44) hx hb hts hinX9 tyX9 tyX9_ok nmX9 hown hK hG (ga_50 g _) rfl 38 (by decide) hw3 rfl rfl (isb_n (by decide)) (isb_f (by decide)) (Nat.le_of_ble_eq_true rfl) ((gf_3238 g _ _).trans (congrArg (g_cells g) (mk_a 0 rfl rfl))) dX9_findKinds_10 (fun H locs hG => ?_)
    refine lv_iconst (v := (0 : Int32)) hx hb dX9_findKinds_13 (by decide) ?_
    refine lv_istore_n (lv' := [(1, .int (0 : Int32)), (0, .ref (g.2.1 50))]) hx hb dX9_findKinds_14 rfl hl (Nat.le_of_ble_eq_true rfl) rfl (fun ls hl => ?_)
    exact l15 FUEL (0 : Int32) (1 : Int32) (σ.1 3242) (σ.2.2.1 81) (σ.2.2.1 78) (σ.2.2.1 79) (σ.2.2.1 80) _ _ _ (lv_sub hl [1, 0] rfl) hG h
  · have h := ite_f c9 h
    cases h
    exact gx_vret hx hb hr hlocks hG dX9_findKinds_7

set_option maxHeartbeats 4000000 in
set_option maxRecDepth 100000 in
theorem c_M_kind (l : Launch) (g : GC) (σ : St) (x1 : Int32) (x2 : Int32) (r : Int32) (w_areKindsFound : Int32) (w_kindMany : Int32) (w_firstPair : Nat → Int32) (w_kindOf : Nat → Int32) (w_newKind : Nat → Int32) (w_signs : Nat → Int32) (h : M_kind x1 x2 (σ.1 3238) (σ.1 3242) (σ.1 3203) (σ.2.2.1 81) (σ.2.2.1 78) (σ.2.2.1 79) (σ.2.2.1 54) (σ.2.2.1 80) = some (r, w_areKindsFound, w_kindMany, w_firstPair, w_kindOf, w_newKind, w_signs)) : Cn l g yX9_kind wsX9_kind 3 72 [.ref (g.2.1 50), .int x1, .int x2] σ (some (.int r)) (mkS σ [(3238, w_areKindsFound), (3242, w_kindMany)] [] [(81, w_firstPair), (78, w_kindOf), (79, w_newKind), (80, w_signs)] []) := by
  unfold Cn
  refine Met.ofW (cc := cX9_kind) (maxL := 3) (ret := (some .int)) (by decide) rfl ?_
  intro p e s m args below meth c s₁ B hml hv
  obtain ⟨hargs, hP0, hK⟩ := hv
  have hx := B.exec
  have hb := B.bytes
  have hr := B.returns
  have hts := atoms_spec (ws := wsX9_kind) B.pre
  have hown : s.vm.findClass RX9 = some m.cls := findClass_of_methodNamed B.named
  have hlocks := B.notSynchronized
  have hS9 : CallFix p m c cX9_kind 3 s args wsX9_kind RX9 := ⟨hx, hb, hml, hown, hts⟩
  have hinX9 : ∀ w ∈ wsX90, w ∈ wsX9_kind := fun w h => List.mem_cons_of_mem _ (List.mem_append_right _ (h))
  have hw0 := hts (.fieldLink RX9 97 "LikeNetsModel" "kindOf" "[I") (List.mem_of_getElem? (i := 1) rfl)
  have hf9 : entryFrame m args 3 = _ := (congrArg (fun a => entryFrame m a 3) hargs).trans (lg_entry_eq m [.ref (g.2.1 50), .int x1, .int x2] 3)
  show Wg p l e 3 72 s m args below meth c g (some (.int r)) (mkS σ [(3238, w_areKindsFound), (3242, w_kindMany)] [] [(81, w_firstPair), (78, w_kindOf), (79, w_newKind), (80, w_signs)] []) s.heap [] (entryFrame m args 3)
  rw [hf9]
  have hl := lv_entry ([.ref (g.2.1 50), .int x1, .int x2]) (n := 3) (Nat.le_of_ble_eq_true rfl)
  generalize (lg_sl ([.ref (g.2.1 50), .int x1, .int x2]) ++ List.replicate (3 - (lg_sl ([.ref (g.2.1 50), .int x1, .int x2])).length) Slot.unset).toArray = ls at hl ⊢
  have hl : lv_has ls 3 [(0, .ref (g.2.1 50)), (1, .int x1), (2, .int x2)] := hl
  have hG : GW g s σ s.heap [] := ⟨hP0, va_S.rf⟩
  have hG : GW g s (mkS σ [(3238, (σ.1 3238)), (3242, (σ.1 3242))] [] [(81, (σ.2.2.1 81)), (78, (σ.2.2.1 78)), (79, (σ.2.2.1 79)), (80, (σ.2.2.1 80))] []) s.heap [] := GW_self [3238, 3242] [] [81, 78, 79, 80] [] hG
  unfold M_kind at h
  have n16 : ∀ (v_areKindsFound : Int32) (v_kindMany : Int32) (v_firstPair : Nat → Int32) (v_kindOf : Nat → Int32) (v_newKind : Nat → Int32) (v_signs : Nat → Int32) (H : Heap) (locs : List Loc) (ls : Array Slot), lv_has ls 3 [] → GW g s (mkS σ [(3238, v_areKindsFound), (3242, v_kindMany)] [] [(81, v_firstPair), (78, v_kindOf), (79, v_newKind), (80, v_signs)] []) H locs → M_kind_n16 v_areKindsFound v_kindMany v_firstPair v_kindOf v_newKind v_signs = some (r, w_areKindsFound, w_kindMany, w_firstPair, w_kindOf, w_newKind, w_signs) → Wg p l e 3 72 s m args below meth c g (some (.int r)) (mkS σ [(3238, w_areKindsFound), (3242, w_kindMany)] [] [(81, w_firstPair), (78, w_kindOf), (79, w_newKind), (80, w_signs)] []) H locs (F0 m 16 ls []) := by
    intro v_areKindsFound v_kindMany v_firstPair v_kindOf v_newKind v_signs H locs ls hl hG h
    unfold M_kind_n16 at h
    refine lv_iconst (v := (-1 : Int32)) hx hb dX9_kind_16 (by decide) ?_
    cases h
    exact gx_iret hx hb hr hlocks hG dX9_kind_17
  refine lv_aload_n hx hb dX9_kind_0 rfl (lv_at hl 0 rfl) ?_
  refine lv_iload_n hx hb dX9_kind_1 rfl (lv_at hl 1 rfl) ?_
  obtain ⟨z1, hc2, h⟩ := bnd_some h
  refine gx_cV (σ' := (mkS σ [(3238, (σ.1 3238)), (3242, (σ.1 3242))] [] [(81, (σ.2.2.1 81)), (78, (σ.2.2.1 78)), (79, (σ.2.2.1 79)), (80, (σ.2.2.1 80))] [])) (r := (some (.int z1))) (rest := []) (As := [.int x1]) hS9 (c_M_isPost l g (mkS σ [(3238, (σ.1 3238)), (3242, (σ.1 3242))] [] [(81, (σ.2.2.1 81)), (78, (σ.2.2.1 78)), (79, (σ.2.2.1 79)), (80, (σ.2.2.1 80))] []) x1 z1 hc2) rfl (cwV 1 hts gX9_kind_X9_isPost rfl rfl rfl (by decide +kernel) ⟨Nat.le_of_ble_eq_true rfl, Nat.le_of_ble_eq_true rfl⟩) hK hG (ga_50 g _) rfl rfl rfl hl.1 rfl (Nat.le_of_ble_eq_true rfl) dX9_kind_2 (fun H locs hG => ?_)
  refine W.eq (g2 := F0 m 5 ls [.int z1]) rfl ?_
  refine lv_if_eq (tgt := 16) hx hb dX9_kind_5 (by decide) (fun c3 => ?_) (fun c3 => ?_)
  · have h := ite_t c3 h
    exact n16 (σ.1 3238) (σ.1 3242) (σ.2.2.1 81) (σ.2.2.1 78) (σ.2.2.1 79) (σ.2.2.1 80) _ _ _ (lv_sub hl [] rfl) hG h
  · have h := ite_f c3 h
    refine lv_aload_n hx hb dX9_kind_8 rfl (lv_at hl 0 rfl) ?_
    refine lv_iload_n hx hb dX9_kind_9 rfl (lv_at hl 2 rfl) ?_
    obtain ⟨z4, hc5, h⟩ := bnd_some h
    refine gx_cV (σ' := (mkS σ [(3238, (σ.1 3238)), (3242, (σ.1 3242))] [] [(81, (σ.2.2.1 81)), (78, (σ.2.2.1 78)), (79, (σ.2.2.1 79)), (80, (σ.2.2.1 80))] [])) (r := (some (.int z4))) (rest := []) (As := [.int x2]) hS9 (c_M_isPost l g (mkS σ [(3238, (σ.1 3238)), (3242, (σ.1 3242))] [] [(81, (σ.2.2.1 81)), (78, (σ.2.2.1 78)), (79, (σ.2.2.1 79)), (80, (σ.2.2.1 80))] []) x2 z4 hc5) rfl (cwV 1 hts gX9_kind_X9_isPost rfl rfl rfl (by decide +kernel) ⟨Nat.le_of_ble_eq_true rfl, Nat.le_of_ble_eq_true rfl⟩) hK hG (ga_50 g _) rfl rfl rfl hl.1 rfl (Nat.le_of_ble_eq_true rfl) dX9_kind_10 (fun H locs hG => ?_)
    refine W.eq (g2 := F0 m 13 ls [.int z4]) rfl ?_
    refine lv_if_ne (tgt := 18) hx hb dX9_kind_13 (by decide) (fun c6 => ?_) (fun c6 => ?_)
    · have h := ite_f c6 h
      refine lv_aload_n hx hb dX9_kind_18 rfl (lv_at hl 0 rfl) ?_
      obtain ⟨z7, hc8, h⟩ := bnd_some h
      refine gx_cV (σ' := (mkS σ [(3238, z7.1), (3242, z7.2.1)] [] [(81, z7.2.2.1), (78, z7.2.2.2.1), (79, z7.2.2.2.2.1), (80, z7.2.2.2.2.2)] [])) (r := none) (rest := []) (As := []) hS9 (c_M_findKinds l g (mkS σ [(3238, (σ.1 3238)), (3242, (σ.1 3242))] [] [(81, (σ.2.2.1 81)), (78, (σ.2.2.1 78)), (79, (σ.2.2.1 79)), (80, (σ.2.2.1 80))] []) z7.1 z7.2.1 z7.2.2.1 z7.2.2.2.1 z7.2.2.2.2.1 z7.2.2.2.2.2 hc8) (mk_mk rfl rfl rfl rfl) (cwV 0 hts gX9_kind_X9_findKinds rfl rfl rfl (by decide +kernel) ⟨Nat.le_of_ble_eq_true rfl, Nat.le_of_ble_eq_true rfl⟩) hK hG (ga_50 g _) rfl rfl rfl hl.1 rfl (Nat.le_of_ble_eq_true rfl) dX9_kind_19 (fun H locs hG => ?_)
      refine W.eq (g2 := F0 m 22 ls []) rfl ?_
      refine lv_aload_n hx hb dX9_kind_22 rfl (lv_at hl 0 rfl) ?_
      refine gx_get (v := .ref (g.2.1 78)) (C := RX9) (T := TX9) (N := 44) hx hb hts hinX9 hown hK hG (ga_50 g _) rfl 39 (by decide) hw0 rfl rfl dX9_kind_23 ?_
      refine lv_bipush (v := (32 : Int32)) hx hb dX9_kind_26 (by decide) ?_
      refine lv_iload_n hx hb dX9_kind_28 rfl (lv_at hl 1 rfl) ?_
      refine lv_imul hx hb dX9_kind_29 ?_
      refine lv_iload_n hx hb dX9_kind_30 rfl (lv_at hl 2 rfl) ?_
      refine lv_iadd hx hb dX9_kind_31 ?_
      obtain ⟨hg9, h⟩ := gd_some h
      refine gx_iald (f := z7.2.2.2.1) hx hb hK hG (ga_78 g _) hg9 dX9_kind_32 ?_
      cases h
      exact gx_iret hx hb hr hlocks hG dX9_kind_33
    · have h := ite_t c6 h
      exact n16 (σ.1 3238) (σ.1 3242) (σ.2.2.1 81) (σ.2.2.1 78) (σ.2.2.1 79) (σ.2.2.1 80) _ _ _ (lv_sub hl [] rfl) hG h

set_option maxHeartbeats 4000000 in
set_option maxRecDepth 100000 in
theorem c_M_kinds (l : Launch) (g : GC) (σ : St) (r : Int32) (w_areKindsFound : Int32) (w_kindMany : Int32) (w_firstPair : Nat → Int32) (w_kindOf : Nat → Int32) (w_newKind : Nat → Int32) (w_signs : Nat → Int32) (h : M_kinds (σ.1 3238) (σ.1 3242) (σ.1 3203) (σ.2.2.1 81) (σ.2.2.1 78) (σ.2.2.1 79) (σ.2.2.1 54) (σ.2.2.1 80) = some (r, w_areKindsFound, w_kindMany, w_firstPair, w_kindOf, w_newKind, w_signs)) : Cn l g yX9_kinds wsX9_kinds 3 72 [.ref (g.2.1 50)] σ (some (.int r)) (mkS σ [(3238, w_areKindsFound), (3242, w_kindMany)] [] [(81, w_firstPair), (78, w_kindOf), (79, w_newKind), (80, w_signs)] []) := by
  unfold Cn
  refine Met.ofW (cc := cX9_kinds) (maxL := 1) (ret := (some .int)) (by decide) rfl ?_
  intro p e s m args below meth c s₁ B hml hv
  obtain ⟨hargs, hP0, hK⟩ := hv
  have hx := B.exec
  have hb := B.bytes
  have hr := B.returns
  have hts := atoms_spec (ws := wsX9_kinds) B.pre
  have hown : s.vm.findClass RX9 = some m.cls := findClass_of_methodNamed B.named
  have hlocks := B.notSynchronized
  have hS9 : CallFix p m c cX9_kinds 1 s args wsX9_kinds RX9 := ⟨hx, hb, hml, hown, hts⟩
  have hinX9 : ∀ w ∈ wsX90, w ∈ wsX9_kinds := fun w h => List.mem_cons_of_mem _ (List.mem_append_right _ (h))
  have hw0 := hts (.fieldLink RX9 316 "LikeNetsModel" "kindMany" "I") (List.mem_of_getElem? (i := 1) rfl)
  have hf9 : entryFrame m args 1 = _ := (congrArg (fun a => entryFrame m a 1) hargs).trans (lg_entry_eq m [.ref (g.2.1 50)] 1)
  show Wg p l e 3 72 s m args below meth c g (some (.int r)) (mkS σ [(3238, w_areKindsFound), (3242, w_kindMany)] [] [(81, w_firstPair), (78, w_kindOf), (79, w_newKind), (80, w_signs)] []) s.heap [] (entryFrame m args 1)
  rw [hf9]
  have hl := lv_entry ([.ref (g.2.1 50)]) (n := 1) (Nat.le_of_ble_eq_true rfl)
  generalize (lg_sl ([.ref (g.2.1 50)]) ++ List.replicate (1 - (lg_sl ([.ref (g.2.1 50)])).length) Slot.unset).toArray = ls at hl ⊢
  have hl : lv_has ls 1 [(0, .ref (g.2.1 50))] := hl
  have hG : GW g s σ s.heap [] := ⟨hP0, va_S.rf⟩
  have hG : GW g s (mkS σ [(3238, (σ.1 3238)), (3242, (σ.1 3242))] [] [(81, (σ.2.2.1 81)), (78, (σ.2.2.1 78)), (79, (σ.2.2.1 79)), (80, (σ.2.2.1 80))] []) s.heap [] := GW_self [3238, 3242] [] [81, 78, 79, 80] [] hG
  unfold M_kinds at h
  refine lv_aload_n hx hb dX9_kinds_0 rfl (lv_at hl 0 rfl) ?_
  obtain ⟨z1, hc2, h⟩ := bnd_some h
  refine gx_cV (σ' := (mkS σ [(3238, z1.1), (3242, z1.2.1)] [] [(81, z1.2.2.1), (78, z1.2.2.2.1), (79, z1.2.2.2.2.1), (80, z1.2.2.2.2.2)] [])) (r := none) (rest := []) (As := []) hS9 (c_M_findKinds l g (mkS σ [(3238, (σ.1 3238)), (3242, (σ.1 3242))] [] [(81, (σ.2.2.1 81)), (78, (σ.2.2.1 78)), (79, (σ.2.2.1 79)), (80, (σ.2.2.1 80))] []) z1.1 z1.2.1 z1.2.2.1 z1.2.2.2.1 z1.2.2.2.2.1 z1.2.2.2.2.2 hc2) (mk_mk rfl rfl rfl rfl) (cwV 0 hts gX9_kinds_X9_findKinds rfl rfl rfl (by decide +kernel) ⟨Nat.le_of_ble_eq_true rfl, Nat.le_of_ble_eq_true rfl⟩) hK hG (ga_50 g _) rfl rfl rfl hl.1 rfl (Nat.le_of_ble_eq_true rfl) dX9_kinds_1 (fun H locs hG => ?_)
  refine W.eq (g2 := F0 m 4 ls []) rfl ?_
  refine lv_aload_n hx hb dX9_kinds_4 rfl (lv_at hl 0 rfl) ?_
  refine gx_get (v := .int z1.2.1) (C := RX9) (T := TX9) (N := 44) hx hb hts hinX9 hown hK hG (ga_50 g _) rfl 42 (by decide) hw0 rfl rfl dX9_kinds_5 ?_
  cases h
  exact gx_iret hx hb hr hlocks hG dX9_kinds_8

set_option maxHeartbeats 4000000 in
set_option maxRecDepth 100000 in
theorem c_M_fullness (l : Launch) (g : GC) (σ : St) (x1 : Int32) (r : Int32) (h : M_fullness x1 (σ.1 3203) (σ.2.2.1 54) = some r) : Cn l g yX9_fullness wsX9_fullness 0 0 [.ref (g.2.1 50), .int x1] σ (some (.int r)) σ := by
  unfold Cn
  refine Met.ofW (cc := cX9_fullness) (maxL := 4) (ret := (some .int)) (by decide) rfl ?_
  intro p e s m args below meth c s₁ B hml hv
  obtain ⟨hargs, hP0, hK⟩ := hv
  have hx := B.exec
  have hb := B.bytes
  have hr := B.returns
  have hts := atoms_spec (ws := wsX9_fullness) B.pre
  have hown : s.vm.findClass RX9 = some m.cls := findClass_of_methodNamed B.named
  have hlocks := B.notSynchronized
  have hinX9 : ∀ w ∈ wsX90, w ∈ wsX9_fullness := fun w h => List.mem_cons_of_mem _ (List.mem_append_right _ (h))
  have hw0 := hts (.fieldLink RX9 116 "LikeNetsModel" "posts" "I") (List.mem_of_getElem? (i := 1) rfl)
  have hw1 := hts (.fieldLink RX9 19 "LikeNetsModel" "road" "[Z") (List.mem_of_getElem? (i := 2) rfl)
  have hf9 : entryFrame m args 4 = _ := (congrArg (fun a => entryFrame m a 4) hargs).trans (lg_entry_eq m [.ref (g.2.1 50), .int x1] 4)
  show Wg p l e 0 0 s m args below meth c g (some (.int r)) σ s.heap [] (entryFrame m args 4)
  rw [hf9]
  have hl := lv_entry ([.ref (g.2.1 50), .int x1]) (n := 4) (Nat.le_of_ble_eq_true rfl)
  generalize (lg_sl ([.ref (g.2.1 50), .int x1]) ++ List.replicate (4 - (lg_sl ([.ref (g.2.1 50), .int x1])).length) Slot.unset).toArray = ls at hl ⊢
  have hl : lv_has ls 4 [(0, .ref (g.2.1 50)), (1, .int x1)] := hl
  have hG : GW g s σ s.heap [] := ⟨hP0, va_S.rf⟩
  unfold M_fullness at h
  have n32 : ∀ (k4 : Int32 → Int32 → Int32 → Option (Int32)) (hk4 : ∀ (x1 : Int32) (x2 : Int32) (x3 : Int32) (H : Heap) (locs : List Loc) (ls : Array Slot), lv_has ls 4 [(0, .ref (g.2.1 50)), (1, .int x1), (2, .int x2), (3, .int x3)] → GW g s σ H locs → k4 x1 x2 x3 = some r → Wg p l e 0 0 s m args below meth c g (some (.int r)) σ H locs (F0 m 4 ls [])) (x1 : Int32) (x3 : Int32) (t0 : Int32) (t1 : Int32) (H : Heap) (locs : List Loc) (ls : Array Slot), lv_has ls 4 [(0, .ref (g.2.1 50)), (1, .int x1), (3, .int x3)] → GW g s σ H locs → M_fullness_n32 k4 x1 x3 t0 t1 = some r → Wg p l e 0 0 s m args below meth c g (some (.int r)) σ H locs (F0 m 32 ls [.int t1, .int t0]) := by
    intro k4 hk4 x1 x3 t0 t1 H locs ls hl hG h
    unfold M_fullness_n32 at h
    refine lv_iadd hx hb dX9_fullness_32 ?_
    refine lv_istore_n (lv' := [(2, .int (t0 + t1)), (0, .ref (g.2.1 50)), (1, .int x1), (3, .int x3)]) hx hb dX9_fullness_33 rfl hl (Nat.le_of_ble_eq_true rfl) rfl (fun ls hl => ?_)
    refine lv_iinc (v := (x3 + (1 : Int32))) (lv' := [(3, .int (x3 + (1 : Int32))), (2, .int (t0 + t1)), (0, .ref (g.2.1 50)), (1, .int x1)]) hx hb dX9_fullness_34 hl (k := 3) rfl (congrArg (fun z => x3 + z) (by decide)) (Nat.le_of_ble_eq_true rfl) rfl (fun ls hl => ?_)
    refine lv_goto (tgt := 4) hx hb dX9_fullness_37 (by decide) ?_
    exact hk4 x1 (t0 + t1) (x3 + (1 : Int32)) _ _ _ (lv_sub hl [2, 3, 1, 0] rfl) hG h
  have n40 : ∀ (x2 : Int32) (H : Heap) (locs : List Loc) (ls : Array Slot), lv_has ls 4 [(2, .int x2)] → GW g s σ H locs → M_fullness_n40 x2 = some r → Wg p l e 0 0 s m args below meth c g (some (.int r)) σ H locs (F0 m 40 ls []) := by
    intro x2 H locs ls hl hG h
    unfold M_fullness_n40 at h
    refine lv_iload_n hx hb dX9_fullness_40 rfl (lv_at hl 0 rfl) ?_
    cases h
    exact gx_iret hx hb hr hlocks hG dX9_fullness_41
  have n4 : ∀ (k4 : Int32 → Int32 → Int32 → Option (Int32)) (hk4 : ∀ (x1 : Int32) (x2 : Int32) (x3 : Int32) (H : Heap) (locs : List Loc) (ls : Array Slot), lv_has ls 4 [(0, .ref (g.2.1 50)), (1, .int x1), (2, .int x2), (3, .int x3)] → GW g s σ H locs → k4 x1 x2 x3 = some r → Wg p l e 0 0 s m args below meth c g (some (.int r)) σ H locs (F0 m 4 ls [])) (x1 : Int32) (x2 : Int32) (x3 : Int32) (H : Heap) (locs : List Loc) (ls : Array Slot), lv_has ls 4 [(0, .ref (g.2.1 50)), (1, .int x1), (2, .int x2), (3, .int x3)] → GW g s σ H locs → M_fullness_n4 k4 (σ.1 3203) (σ.2.2.1 54) x1 x2 x3 = some r → Wg p l e 0 0 s m args below meth c g (some (.int r)) σ H locs (F0 m 4 ls []) := by
    intro k4 hk4 x1 x2 x3 H locs ls hl hG h
    unfold M_fullness_n4 at h
    refine lv_iload_n hx hb dX9_fullness_4 rfl (lv_at hl 3 rfl) ?_
    refine lv_aload_n hx hb dX9_fullness_5 rfl (lv_at hl 0 rfl) ?_
    refine gx_get (v := .int (σ.1 3203)) (C := RX9) (T := TX9) (N := 44) hx hb hts hinX9 hown hK hG (ga_50 g _) rfl 3 (by decide) hw0 rfl rfl dX9_fullness_6 ?_
    refine lv_icmp_ge (tgt := 40) hx hb dX9_fullness_9 (by decide) (fun c1 => ?_) (fun c1 => ?_)
    · have h := ite_t c1 h
      exact n40 x2 _ _ _ (lv_sub hl [2] rfl) hG h
    · have h := ite_f c1 h
      refine lv_iload_n hx hb dX9_fullness_12 rfl (lv_at hl 2 rfl) ?_
      refine lv_aload_n hx hb dX9_fullness_13 rfl (lv_at hl 0 rfl) ?_
      refine gx_get (v := .ref (g.2.1 54)) (C := RX9) (T := TX9) (N := 44) hx hb hts hinX9 hown hK hG (ga_50 g _) rfl 4 (by decide) hw1 rfl rfl dX9_fullness_14 ?_
      refine lv_bipush (v := (32 : Int32)) hx hb dX9_fullness_17 (by decide) ?_
      refine lv_iload_n hx hb dX9_fullness_19 rfl (lv_at hl 1 rfl) ?_
      refine lv_imul hx hb dX9_fullness_20 ?_
      refine lv_iload_n hx hb dX9_fullness_21 rfl (lv_at hl 3 rfl) ?_
      refine lv_iadd hx hb dX9_fullness_22 ?_
      obtain ⟨hg2, h⟩ := gd_some h
      refine gx_zald (f := (σ.2.2.1 54)) hx hb hK hG (ga_54 g _) hg2 dX9_fullness_23 ?_
      refine lv_if_eq (tgt := 31) hx hb dX9_fullness_24 (by decide) (fun c3 => ?_) (fun c3 => ?_)
      · have h := ite_t c3 h
        refine lv_iconst (v := (0 : Int32)) hx hb dX9_fullness_31 (by decide) ?_
        exact n32 k4 hk4 x1 x3 x2 (0 : Int32) _ _ _ (lv_sub hl [0, 1, 3] rfl) hG h
      · have h := ite_f c3 h
        refine lv_iconst (v := (1 : Int32)) hx hb dX9_fullness_27 (by decide) ?_
        refine lv_goto (tgt := 32) hx hb dX9_fullness_28 (by decide) ?_
        exact n32 k4 hk4 x1 x3 x2 (1 : Int32) _ _ _ (lv_sub hl [0, 1, 3] rfl) hG h
  have l4 : ∀  (F : Nat) (x1 : Int32) (x2 : Int32) (x3 : Int32) (H : Heap) (locs : List Loc) (ls : Array Slot), lv_has ls 4 [(0, .ref (g.2.1 50)), (1, .int x1), (2, .int x2), (3, .int x3)] → GW g s σ H locs → M_fullness_l4 (σ.1 3203) (σ.2.2.1 54) F x1 x2 x3 = some r → Wg p l e 0 0 s m args below meth c g (some (.int r)) σ H locs (F0 m 4 ls []) := by
    intro F
    induction F with
    | zero => intro x1 x2 x3 H locs ls hl hG h; exact no_some h
    | succ F ih => intro x1 x2 x3 H locs ls hl hG h; exact n4 (fun x1 x2 x3 => M_fullness_l4 (σ.1 3203) (σ.2.2.1 54) F x1 x2 x3) ih x1 x2 x3 H locs ls hl hG h
  refine lv_iconst (v := (0 : Int32)) hx hb dX9_fullness_0 (by decide) ?_
  refine lv_istore_n (lv' := [(2, .int (0 : Int32)), (0, .ref (g.2.1 50)), (1, .int x1)]) hx hb dX9_fullness_1 rfl hl (Nat.le_of_ble_eq_true rfl) rfl (fun ls hl => ?_)
  refine lv_iconst (v := (0 : Int32)) hx hb dX9_fullness_2 (by decide) ?_
  refine lv_istore_n (lv' := [(3, .int (0 : Int32)), (2, .int (0 : Int32)), (0, .ref (g.2.1 50)), (1, .int x1)]) hx hb dX9_fullness_3 rfl hl (Nat.le_of_ble_eq_true rfl) rfl (fun ls hl => ?_)
  exact l4 FUEL x1 (0 : Int32) (0 : Int32) _ _ _ (lv_sub hl [2, 3, 1, 0] rfl) hG h

set_option maxHeartbeats 4000000 in
set_option maxRecDepth 100000 in
theorem c_M_roads (l : Launch) (g : GC) (σ : St) (r : Int32) (h : M_roads (σ.1 3203) (σ.2.2.1 54) = some r) : Cn l g yX9_roads wsX9_roads 1 23 [.ref (g.2.1 50)] σ (some (.int r)) σ := by
  unfold Cn
  refine Met.ofW (cc := cX9_roads) (maxL := 3) (ret := (some .int)) (by decide) rfl ?_
  intro p e s m args below meth c s₁ B hml hv
  obtain ⟨hargs, hP0, hK⟩ := hv
  have hx := B.exec
  have hb := B.bytes
  have hr := B.returns
  have hts := atoms_spec (ws := wsX9_roads) B.pre
  have hown : s.vm.findClass RX9 = some m.cls := findClass_of_methodNamed B.named
  have hlocks := B.notSynchronized
  have hS9 : CallFix p m c cX9_roads 3 s args wsX9_roads RX9 := ⟨hx, hb, hml, hown, hts⟩
  have hinX9 : ∀ w ∈ wsX90, w ∈ wsX9_roads := fun w h => List.mem_cons_of_mem _ (List.mem_append_right _ (h))
  have hw0 := hts (.fieldLink RX9 116 "LikeNetsModel" "posts" "I") (List.mem_of_getElem? (i := 1) rfl)
  have hf9 : entryFrame m args 3 = _ := (congrArg (fun a => entryFrame m a 3) hargs).trans (lg_entry_eq m [.ref (g.2.1 50)] 3)
  show Wg p l e 1 23 s m args below meth c g (some (.int r)) σ s.heap [] (entryFrame m args 3)
  rw [hf9]
  have hl := lv_entry ([.ref (g.2.1 50)]) (n := 3) (Nat.le_of_ble_eq_true rfl)
  generalize (lg_sl ([.ref (g.2.1 50)]) ++ List.replicate (3 - (lg_sl ([.ref (g.2.1 50)])).length) Slot.unset).toArray = ls at hl ⊢
  have hl : lv_has ls 3 [(0, .ref (g.2.1 50))] := hl
  have hG : GW g s σ s.heap [] := ⟨hP0, va_S.rf⟩
  unfold M_roads at h
  have n26 : ∀ (x1 : Int32) (H : Heap) (locs : List Loc) (ls : Array Slot), lv_has ls 3 [(1, .int x1)] → GW g s σ H locs → M_roads_n26 x1 = some r → Wg p l e 1 23 s m args below meth c g (some (.int r)) σ H locs (F0 m 26 ls []) := by
    intro x1 H locs ls hl hG h
    unfold M_roads_n26 at h
    refine lv_iload_n hx hb dX9_roads_26 rfl (lv_at hl 0 rfl) ?_
    refine lv_iconst (v := (2 : Int32)) hx hb dX9_roads_27 (by decide) ?_
    refine lv_idiv hx hb dX9_roads_28 (by decide) ?_
    cases h
    exact gx_iret hx hb hr hlocks hG dX9_roads_29
  have n4 : ∀ (k4 : Int32 → Int32 → Option (Int32)) (hk4 : ∀ (x1 : Int32) (x2 : Int32) (H : Heap) (locs : List Loc) (ls : Array Slot), lv_has ls 3 [(0, .ref (g.2.1 50)), (1, .int x1), (2, .int x2)] → GW g s σ H locs → k4 x1 x2 = some r → Wg p l e 1 23 s m args below meth c g (some (.int r)) σ H locs (F0 m 4 ls [])) (x1 : Int32) (x2 : Int32) (H : Heap) (locs : List Loc) (ls : Array Slot), lv_has ls 3 [(0, .ref (g.2.1 50)), (1, .int x1), (2, .int x2)] → GW g s σ H locs → M_roads_n4 k4 (σ.1 3203) (σ.2.2.1 54) x1 x2 = some r → Wg p l e 1 23 s m args below meth c g (some (.int r)) σ H locs (F0 m 4 ls []) := by
    intro k4 hk4 x1 x2 H locs ls hl hG h
    unfold M_roads_n4 at h
    refine lv_iload_n hx hb dX9_roads_4 rfl (lv_at hl 2 rfl) ?_
    refine lv_aload_n hx hb dX9_roads_5 rfl (lv_at hl 0 rfl) ?_
    refine gx_get (v := .int (σ.1 3203)) (C := RX9) (T := TX9) (N := 44) hx hb hts hinX9 hown hK hG (ga_50 g _) rfl 3 (by decide) hw0 rfl rfl dX9_roads_6 ?_
    refine lv_icmp_ge (tgt := 26) hx hb dX9_roads_9 (by decide) (fun c1 => ?_) (fun c1 => ?_)
    · have h := ite_t c1 h
      exact n26 x1 _ _ _ (lv_sub hl [1] rfl) hG h
    · have h := ite_f c1 h
      refine lv_iload_n hx hb dX9_roads_12 rfl (lv_at hl 1 rfl) ?_
      refine lv_aload_n hx hb dX9_roads_13 rfl (lv_at hl 0 rfl) ?_
      refine lv_iload_n hx hb dX9_roads_14 rfl (lv_at hl 2 rfl) ?_
      obtain ⟨z2, hc3, h⟩ := bnd_some h
      refine gx_cV (σ' := σ) (r := (some (.int z2))) (rest := [.int x1]) (As := [.int x2]) hS9 (c_M_fullness l g σ x2 z2 hc3) rfl (cwV 1 hts gX9_roads_X9_fullness rfl rfl rfl (by decide +kernel) ⟨Nat.le_of_ble_eq_true rfl, Nat.le_of_ble_eq_true rfl⟩) hK hG (ga_50 g _) rfl rfl rfl hl.1 rfl (Nat.le_of_ble_eq_true rfl) dX9_roads_15 (fun H locs hG => ?_)
      refine W.eq (g2 := F0 m 18 ls [.int z2, .int x1]) rfl ?_
      refine lv_iadd hx hb dX9_roads_18 ?_
      refine lv_istore_n (lv' := [(1, .int (x1 + z2)), (0, .ref (g.2.1 50)), (2, .int x2)]) hx hb dX9_roads_19 rfl hl (Nat.le_of_ble_eq_true rfl) rfl (fun ls hl => ?_)
      refine lv_iinc (v := (x2 + (1 : Int32))) (lv' := [(2, .int (x2 + (1 : Int32))), (1, .int (x1 + z2)), (0, .ref (g.2.1 50))]) hx hb dX9_roads_20 hl (k := 2) rfl (congrArg (fun z => x2 + z) (by decide)) (Nat.le_of_ble_eq_true rfl) rfl (fun ls hl => ?_)
      refine lv_goto (tgt := 4) hx hb dX9_roads_23 (by decide) ?_
      exact hk4 (x1 + z2) (x2 + (1 : Int32)) _ _ _ (lv_sub hl [2, 1, 0] rfl) hG h
  have l4 : ∀  (F : Nat) (x1 : Int32) (x2 : Int32) (H : Heap) (locs : List Loc) (ls : Array Slot), lv_has ls 3 [(0, .ref (g.2.1 50)), (1, .int x1), (2, .int x2)] → GW g s σ H locs → M_roads_l4 (σ.1 3203) (σ.2.2.1 54) F x1 x2 = some r → Wg p l e 1 23 s m args below meth c g (some (.int r)) σ H locs (F0 m 4 ls []) := by
    intro F
    induction F with
    | zero => intro x1 x2 H locs ls hl hG h; exact no_some h
    | succ F ih => intro x1 x2 H locs ls hl hG h; exact n4 (fun x1 x2 => M_roads_l4 (σ.1 3203) (σ.2.2.1 54) F x1 x2) ih x1 x2 H locs ls hl hG h
  refine lv_iconst (v := (0 : Int32)) hx hb dX9_roads_0 (by decide) ?_
  refine lv_istore_n (lv' := [(1, .int (0 : Int32)), (0, .ref (g.2.1 50))]) hx hb dX9_roads_1 rfl hl (Nat.le_of_ble_eq_true rfl) rfl (fun ls hl => ?_)
  refine lv_iconst (v := (0 : Int32)) hx hb dX9_roads_2 (by decide) ?_
  refine lv_istore_n (lv' := [(2, .int (0 : Int32)), (1, .int (0 : Int32)), (0, .ref (g.2.1 50))]) hx hb dX9_roads_3 rfl hl (Nat.le_of_ble_eq_true rfl) rfl (fun ls hl => ?_)
  exact l4 FUEL (0 : Int32) (0 : Int32) _ _ _ (lv_sub hl [2, 1, 0] rfl) hG h

set_option maxHeartbeats 4000000 in
set_option maxRecDepth 100000 in
theorem c_M_lines (l : Launch) (g : GC) (σ : St) (r : Int32) (w_areKindsFound : Int32) (w_isMeasured : Int32) (w_posts : Int32) (w_lineP : Nat → Int32) (w_lineQ : Nat → Int32) (w_newRoad : Nat → Int32) (w_road : Nat → Int32) (h : M_lines (σ.1 3238) (σ.1 3212) (σ.1 3203) (σ.2.2.1 72) (σ.2.2.1 73) (σ.2.2.1 70) (σ.2.2.1 54) = some (r, w_areKindsFound, w_isMeasured, w_posts, w_lineP, w_lineQ, w_newRoad, w_road)) : Cn l g yX9_lines wsX9_lines 2 45 [.ref (g.2.1 50)] σ (some (.int r)) (mkS σ [(3238, w_areKindsFound), (3212, w_isMeasured), (3203, w_posts)] [] [(72, w_lineP), (73, w_lineQ), (70, w_newRoad), (54, w_road)] []) := by
  unfold Cn
  refine Met.ofW (cc := cX9_lines) (maxL := 5) (ret := (some .int)) (by decide) rfl ?_
  intro p e s m args below meth c s₁ B hml hv
  obtain ⟨hargs, hP0, hK⟩ := hv
  have hx := B.exec
  have hb := B.bytes
  have hr := B.returns
  have hts := atoms_spec (ws := wsX9_lines) B.pre
  have hown : s.vm.findClass RX9 = some m.cls := findClass_of_methodNamed B.named
  have hlocks := B.notSynchronized
  have hS9 : CallFix p m c cX9_lines 5 s args wsX9_lines RX9 := ⟨hx, hb, hml, hown, hts⟩
  have hinX9 : ∀ w ∈ wsX90, w ∈ wsX9_lines := fun w h => List.mem_cons_of_mem _ (List.mem_append_right _ (h))
  have hw0 := hts (.fieldLink RX9 116 "LikeNetsModel" "posts" "I") (List.mem_of_getElem? (i := 1) rfl)
  have hw1 := hts (.fieldLink RX9 19 "LikeNetsModel" "road" "[Z") (List.mem_of_getElem? (i := 2) rfl)
  have hw2 := hts (.fieldLink RX9 79 "LikeNetsModel" "lineP" "[I") (List.mem_of_getElem? (i := 3) rfl)
  have hw3 := hts (.fieldLink RX9 82 "LikeNetsModel" "lineQ" "[I") (List.mem_of_getElem? (i := 4) rfl)
  have hw4 := hts (.fieldLink RX9 73 "LikeNetsModel" "newRoad" "[Z") (List.mem_of_getElem? (i := 5) rfl)
  have hf9 : entryFrame m args 5 = _ := (congrArg (fun a => entryFrame m a 5) hargs).trans (lg_entry_eq m [.ref (g.2.1 50)] 5)
  show Wg p l e 2 45 s m args below meth c g (some (.int r)) (mkS σ [(3238, w_areKindsFound), (3212, w_isMeasured), (3203, w_posts)] [] [(72, w_lineP), (73, w_lineQ), (70, w_newRoad), (54, w_road)] []) s.heap [] (entryFrame m args 5)
  rw [hf9]
  have hl := lv_entry ([.ref (g.2.1 50)]) (n := 5) (Nat.le_of_ble_eq_true rfl)
  generalize (lg_sl ([.ref (g.2.1 50)]) ++ List.replicate (5 - (lg_sl ([.ref (g.2.1 50)])).length) Slot.unset).toArray = ls at hl ⊢
  have hl : lv_has ls 5 [(0, .ref (g.2.1 50))] := hl
  have hG : GW g s σ s.heap [] := ⟨hP0, va_S.rf⟩
  have hG : GW g s (mkS σ [(3238, (σ.1 3238)), (3212, (σ.1 3212)), (3203, (σ.1 3203))] [] [(72, (σ.2.2.1 72)), (73, (σ.2.2.1 73)), (70, (σ.2.2.1 70)), (54, (σ.2.2.1 54))] []) s.heap [] := GW_self [3238, 3212, 3203] [] [72, 73, 70, 54] [] hG
  unfold M_lines at h
  have n67 : ∀ (k28 : Int32 → Int32 → Int32 → Int32 → Int32 → Int32 → (Nat → Int32) → (Nat → Int32) → (Nat → Int32) → (Nat → Int32) → Option (Int32 × Int32 × Int32 × Int32 × (Nat → Int32) × (Nat → Int32) × (Nat → Int32) × (Nat → Int32))) (hk28 : ∀ (x1 : Int32) (x2 : Int32) (x3 : Int32) (v_areKindsFound : Int32) (v_isMeasured : Int32) (v_posts : Int32) (v_lineP : Nat → Int32) (v_lineQ : Nat → Int32) (v_newRoad : Nat → Int32) (v_road : Nat → Int32) (H : Heap) (locs : List Loc) (ls : Array Slot), lv_has ls 5 [(0, .ref (g.2.1 50)), (1, .int x1), (2, .int x2), (3, .int x3)] → GW g s (mkS σ [(3238, v_areKindsFound), (3212, v_isMeasured), (3203, v_posts)] [] [(72, v_lineP), (73, v_lineQ), (70, v_newRoad), (54, v_road)] []) H locs → k28 x1 x2 x3 v_areKindsFound v_isMeasured v_posts v_lineP v_lineQ v_newRoad v_road = some (r, w_areKindsFound, w_isMeasured, w_posts, w_lineP, w_lineQ, w_newRoad, w_road) → Wg p l e 2 45 s m args below meth c g (some (.int r)) (mkS σ [(3238, w_areKindsFound), (3212, w_isMeasured), (3203, w_posts)] [] [(72, w_lineP), (73, w_lineQ), (70, w_newRoad), (54, w_road)] []) H locs (F0 m 28 ls [])) (x1 : Int32) (x2 : Int32) (x3 : Int32) (v_areKindsFound : Int32) (v_isMeasured : Int32) (v_posts : Int32) (v_lineP : Nat → Int32) (v_lineQ : Nat → Int32) (v_newRoad : Nat → Int32) (v_road : Nat → Int32) (H : Heap) (locs : List Loc) (ls : Array Slot), lv_has ls 5 [(0, .ref (g.2.1 50)), (1, .int x1), (2, .int x2), (3, .int x3)] → GW g s (mkS σ [(3238, v_areKindsFound), (3212, v_isMeasured), (3203, v_posts)] [] [(72, v_lineP), (73, v_lineQ), (70, v_newRoad), (54, v_road)] []) H locs → M_lines_n67 k28 x1 x2 x3 v_areKindsFound v_isMeasured v_posts v_lineP v_lineQ v_newRoad v_road = some (r, w_areKindsFound, w_isMeasured, w_posts, w_lineP, w_lineQ, w_newRoad, w_road) → Wg p l e 2 45 s m args below meth c g (some (.int r)) (mkS σ [(3238, w_areKindsFound), (3212, w_isMeasured), (3203, w_posts)] [] [(72, w_lineP), (73, w_lineQ), (70, w_newRoad), (54, w_road)] []) H locs (F0 m 67 ls []) := by
    intro k28 hk28 x1 x2 x3 v_areKindsFound v_isMeasured v_posts v_lineP v_lineQ v_newRoad v_road H locs ls hl hG h
    unfold M_lines_n67 at h
    refine lv_iinc (v := (x3 + (1 : Int32))) (lv' := [(3, .int (x3 + (1 : Int32))), (0, .ref (g.2.1 50)), (1, .int x1), (2, .int x2)]) hx hb dX9_lines_67 hl (k := 3) rfl (congrArg (fun z => x3 + z) (by decide)) (Nat.le_of_ble_eq_true rfl) rfl (fun ls hl => ?_)
    refine lv_goto (tgt := 28) hx hb dX9_lines_70 (by decide) ?_
    exact hk28 x1 x2 (x3 + (1 : Int32)) v_areKindsFound v_isMeasured v_posts v_lineP v_lineQ v_newRoad v_road _ _ _ (lv_sub hl [1, 2, 3, 0] rfl) hG h
  have n73 : ∀ (k16 : Int32 → Int32 → Int32 → Int32 → Int32 → (Nat → Int32) → (Nat → Int32) → (Nat → Int32) → (Nat → Int32) → Option (Int32 × Int32 × Int32 × Int32 × (Nat → Int32) × (Nat → Int32) × (Nat → Int32) × (Nat → Int32))) (hk16 : ∀ (x1 : Int32) (x2 : Int32) (v_areKindsFound : Int32) (v_isMeasured : Int32) (v_posts : Int32) (v_lineP : Nat → Int32) (v_lineQ : Nat → Int32) (v_newRoad : Nat → Int32) (v_road : Nat → Int32) (H : Heap) (locs : List Loc) (ls : Array Slot), lv_has ls 5 [(0, .ref (g.2.1 50)), (1, .int x1), (2, .int x2)] → GW g s (mkS σ [(3238, v_areKindsFound), (3212, v_isMeasured), (3203, v_posts)] [] [(72, v_lineP), (73, v_lineQ), (70, v_newRoad), (54, v_road)] []) H locs → k16 x1 x2 v_areKindsFound v_isMeasured v_posts v_lineP v_lineQ v_newRoad v_road = some (r, w_areKindsFound, w_isMeasured, w_posts, w_lineP, w_lineQ, w_newRoad, w_road) → Wg p l e 2 45 s m args below meth c g (some (.int r)) (mkS σ [(3238, w_areKindsFound), (3212, w_isMeasured), (3203, w_posts)] [] [(72, w_lineP), (73, w_lineQ), (70, w_newRoad), (54, w_road)] []) H locs (F0 m 16 ls [])) (x1 : Int32) (x2 : Int32) (v_areKindsFound : Int32) (v_isMeasured : Int32) (v_posts : Int32) (v_lineP : Nat → Int32) (v_lineQ : Nat → Int32) (v_newRoad : Nat → Int32) (v_road : Nat → Int32) (H : Heap) (locs : List Loc) (ls : Array Slot), lv_has ls 5 [(0, .ref (g.2.1 50)), (1, .int x1), (2, .int x2)] → GW g s (mkS σ [(3238, v_areKindsFound), (3212, v_isMeasured), (3203, v_posts)] [] [(72, v_lineP), (73, v_lineQ), (70, v_newRoad), (54, v_road)] []) H locs → M_lines_n73 k16 x1 x2 v_areKindsFound v_isMeasured v_posts v_lineP v_lineQ v_newRoad v_road = some (r, w_areKindsFound, w_isMeasured, w_posts, w_lineP, w_lineQ, w_newRoad, w_road) → Wg p l e 2 45 s m args below meth c g (some (.int r)) (mkS σ [(3238, w_areKindsFound), (3212, w_isMeasured), (3203, w_posts)] [] [(72, w_lineP), (73, w_lineQ), (70, w_newRoad), (54, w_road)] []) H locs (F0 m 73 ls []) := by
    intro k16 hk16 x1 x2 v_areKindsFound v_isMeasured v_posts v_lineP v_lineQ v_newRoad v_road H locs ls hl hG h
    unfold M_lines_n73 at h
    refine lv_iinc (v := (x2 + (1 : Int32))) (lv' := [(2, .int (x2 + (1 : Int32))), (0, .ref (g.2.1 50)), (1, .int x1)]) hx hb dX9_lines_73 hl (k := 2) rfl (congrArg (fun z => x2 + z) (by decide)) (Nat.le_of_ble_eq_true rfl) rfl (fun ls hl => ?_)
    refine lv_goto (tgt := 16) hx hb dX9_lines_76 (by decide) ?_
    exact hk16 x1 (x2 + (1 : Int32)) v_areKindsFound v_isMeasured v_posts v_lineP v_lineQ v_newRoad v_road _ _ _ (lv_sub hl [1, 2, 0] rfl) hG h
  have n28 : ∀ (k16 : Int32 → Int32 → Int32 → Int32 → Int32 → (Nat → Int32) → (Nat → Int32) → (Nat → Int32) → (Nat → Int32) → Option (Int32 × Int32 × Int32 × Int32 × (Nat → Int32) × (Nat → Int32) × (Nat → Int32) × (Nat → Int32))) (hk16 : ∀ (x1 : Int32) (x2 : Int32) (v_areKindsFound : Int32) (v_isMeasured : Int32) (v_posts : Int32) (v_lineP : Nat → Int32) (v_lineQ : Nat → Int32) (v_newRoad : Nat → Int32) (v_road : Nat → Int32) (H : Heap) (locs : List Loc) (ls : Array Slot), lv_has ls 5 [(0, .ref (g.2.1 50)), (1, .int x1), (2, .int x2)] → GW g s (mkS σ [(3238, v_areKindsFound), (3212, v_isMeasured), (3203, v_posts)] [] [(72, v_lineP), (73, v_lineQ), (70, v_newRoad), (54, v_road)] []) H locs → k16 x1 x2 v_areKindsFound v_isMeasured v_posts v_lineP v_lineQ v_newRoad v_road = some (r, w_areKindsFound, w_isMeasured, w_posts, w_lineP, w_lineQ, w_newRoad, w_road) → Wg p l e 2 45 s m args below meth c g (some (.int r)) (mkS σ [(3238, w_areKindsFound), (3212, w_isMeasured), (3203, w_posts)] [] [(72, w_lineP), (73, w_lineQ), (70, w_newRoad), (54, w_road)] []) H locs (F0 m 16 ls [])) (k28 : Int32 → Int32 → Int32 → Int32 → Int32 → Int32 → (Nat → Int32) → (Nat → Int32) → (Nat → Int32) → (Nat → Int32) → Option (Int32 × Int32 × Int32 × Int32 × (Nat → Int32) × (Nat → Int32) × (Nat → Int32) × (Nat → Int32))) (hk28 : ∀ (x1 : Int32) (x2 : Int32) (x3 : Int32) (v_areKindsFound : Int32) (v_isMeasured : Int32) (v_posts : Int32) (v_lineP : Nat → Int32) (v_lineQ : Nat → Int32) (v_newRoad : Nat → Int32) (v_road : Nat → Int32) (H : Heap) (locs : List Loc) (ls : Array Slot), lv_has ls 5 [(0, .ref (g.2.1 50)), (1, .int x1), (2, .int x2), (3, .int x3)] → GW g s (mkS σ [(3238, v_areKindsFound), (3212, v_isMeasured), (3203, v_posts)] [] [(72, v_lineP), (73, v_lineQ), (70, v_newRoad), (54, v_road)] []) H locs → k28 x1 x2 x3 v_areKindsFound v_isMeasured v_posts v_lineP v_lineQ v_newRoad v_road = some (r, w_areKindsFound, w_isMeasured, w_posts, w_lineP, w_lineQ, w_newRoad, w_road) → Wg p l e 2 45 s m args below meth c g (some (.int r)) (mkS σ [(3238, w_areKindsFound), (3212, w_isMeasured), (3203, w_posts)] [] [(72, w_lineP), (73, w_lineQ), (70, w_newRoad), (54, w_road)] []) H locs (F0 m 28 ls [])) (x1 : Int32) (x2 : Int32) (x3 : Int32) (v_areKindsFound : Int32) (v_isMeasured : Int32) (v_posts : Int32) (v_lineP : Nat → Int32) (v_lineQ : Nat → Int32) (v_newRoad : Nat → Int32) (v_road : Nat → Int32) (H : Heap) (locs : List Loc) (ls : Array Slot), lv_has ls 5 [(0, .ref (g.2.1 50)), (1, .int x1), (2, .int x2), (3, .int x3)] → GW g s (mkS σ [(3238, v_areKindsFound), (3212, v_isMeasured), (3203, v_posts)] [] [(72, v_lineP), (73, v_lineQ), (70, v_newRoad), (54, v_road)] []) H locs → M_lines_n28 k16 k28 x1 x2 x3 v_areKindsFound v_isMeasured v_posts v_lineP v_lineQ v_newRoad v_road = some (r, w_areKindsFound, w_isMeasured, w_posts, w_lineP, w_lineQ, w_newRoad, w_road) → Wg p l e 2 45 s m args below meth c g (some (.int r)) (mkS σ [(3238, w_areKindsFound), (3212, w_isMeasured), (3203, w_posts)] [] [(72, w_lineP), (73, w_lineQ), (70, w_newRoad), (54, w_road)] []) H locs (F0 m 28 ls []) := by
    intro k16 hk16 k28 hk28 x1 x2 x3 v_areKindsFound v_isMeasured v_posts v_lineP v_lineQ v_newRoad v_road H locs ls hl hG h
    unfold M_lines_n28 at h
    refine lv_iload_n hx hb dX9_lines_28 rfl (lv_at hl 3 rfl) ?_
    refine lv_aload_n hx hb dX9_lines_29 rfl (lv_at hl 0 rfl) ?_
    refine gx_get (v := .int v_posts) (C := RX9) (T := TX9) (N := 44) hx hb hts hinX9 hown hK hG (ga_50 g _) rfl 3 (by decide) hw0 rfl rfl dX9_lines_30 ?_
    refine lv_icmp_ge (tgt := 73) hx hb dX9_lines_33 (by decide) (fun c1 => ?_) (fun c1 => ?_)
    · have h := ite_t c1 h
      exact n73 k16 hk16 x1 x2 v_areKindsFound v_isMeasured v_posts v_lineP v_lineQ v_newRoad v_road _ _ _ (lv_sub hl [0, 1, 2] rfl) hG h
    · have h := ite_f c1 h
      refine lv_aload_n hx hb dX9_lines_36 rfl (lv_at hl 0 rfl) ?_
      refine gx_get (v := .ref (g.2.1 54)) (C := RX9) (T := TX9) (N := 44) hx hb hts hinX9 hown hK hG (ga_50 g _) rfl 4 (by decide) hw1 rfl rfl dX9_lines_37 ?_
      refine lv_bipush (v := (32 : Int32)) hx hb dX9_lines_40 (by decide) ?_
      refine lv_iload_n hx hb dX9_lines_42 rfl (lv_at hl 2 rfl) ?_
      refine lv_imul hx hb dX9_lines_43 ?_
      refine lv_iload_n hx hb dX9_lines_44 rfl (lv_at hl 3 rfl) ?_
      refine lv_iadd hx hb dX9_lines_45 ?_
      obtain ⟨hg2, h⟩ := gd_some h
      refine gx_zald (f := v_road) hx hb hK hG (ga_54 g _) hg2 dX9_lines_46 ?_
      refine lv_if_eq (tgt := 67) hx hb dX9_lines_47 (by decide) (fun c3 => ?_) (fun c3 => ?_)
      · have h := ite_t c3 h
        exact n67 k28 hk28 x1 x2 x3 v_areKindsFound v_isMeasured v_posts v_lineP v_lineQ v_newRoad v_road _ _ _ (lv_sub hl [0, 1, 2, 3] rfl) hG h
      · have h := ite_f c3 h
        refine lv_aload_n hx hb dX9_lines_50 rfl (lv_at hl 0 rfl) ?_
        refine gx_get (v := .ref (g.2.1 72)) (C := RX9) (T := TX9) (N := 44) hx hb hts hinX9 hown hK hG (ga_50 g _) rfl 31 (by decide) hw2 rfl rfl dX9_lines_51 ?_
        refine lv_iload_n hx hb dX9_lines_54 rfl (lv_at hl 1 rfl) ?_
        refine lv_iload_n hx hb dX9_lines_55 rfl (lv_at hl 2 rfl) ?_
        obtain ⟨hg4, h⟩ := gd_some h
        refine gx_iast (σ' := (mkS σ [(3238, v_areKindsFound), (3212, v_isMeasured), (3203, v_posts)] [] [(72, (upd v_lineP (x1.toNatClampNeg) x2)), (73, v_lineQ), (70, v_newRoad), (54, v_road)] [])) (f := v_lineP) hx hb hK hG (ga_72 g _) hg4 ((gs_72 g _ _).trans (congrArg (g_cells g) (mk_c 0 rfl rfl))) dX9_lines_56 (fun H locs hG => ?_)
        refine lv_aload_n hx hb dX9_lines_57 rfl (lv_at hl 0 rfl) ?_
        refine gx_get (v := .ref (g.2.1 73)) (C := RX9) (T := TX9) (N := 44) hx hb hts hinX9 hown hK hG (ga_50 g _) rfl 32 (by decide) hw3 rfl rfl dX9_lines_58 ?_
        refine lv_iload_n hx hb dX9_lines_61 rfl (lv_at hl 1 rfl) ?_
        refine lv_iload_n hx hb dX9_lines_62 rfl (lv_at hl 3 rfl) ?_
        refine gx_iast (σ' := (mkS σ [(3238, v_areKindsFound), (3212, v_isMeasured), (3203, v_posts)] [] [(72, (upd v_lineP (x1.toNatClampNeg) x2)), (73, (upd v_lineQ (x1.toNatClampNeg) x3)), (70, v_newRoad), (54, v_road)] [])) (f := v_lineQ) hx hb hK hG (ga_73 g _) hg4 ((gs_73 g _ _).trans (congrArg (g_cells g) (mk_c 1 rfl rfl))) dX9_lines_63 (fun H locs hG => ?_)
        refine lv_iinc (v := (x1 + (1 : Int32))) (lv' := [(1, .int (x1 + (1 : Int32))), (0, .ref (g.2.1 50)), (2, .int x2), (3, .int x3)]) hx hb dX9_lines_64 hl (k := 1) rfl (congrArg (fun z => x1 + z) (by decide)) (Nat.le_of_ble_eq_true rfl) rfl (fun ls hl => ?_)
        exact n67 k28 hk28 (x1 + (1 : Int32)) x2 x3 v_areKindsFound v_isMeasured v_posts (upd v_lineP (x1.toNatClampNeg) x2) (upd v_lineQ (x1.toNatClampNeg) x3) v_newRoad v_road _ _ _ (lv_sub hl [1, 0, 2, 3] rfl) hG h
  have l28 : ∀ (k16 : Int32 → Int32 → Int32 → Int32 → Int32 → (Nat → Int32) → (Nat → Int32) → (Nat → Int32) → (Nat → Int32) → Option (Int32 × Int32 × Int32 × Int32 × (Nat → Int32) × (Nat → Int32) × (Nat → Int32) × (Nat → Int32))) (hk16 : ∀ (x1 : Int32) (x2 : Int32) (v_areKindsFound : Int32) (v_isMeasured : Int32) (v_posts : Int32) (v_lineP : Nat → Int32) (v_lineQ : Nat → Int32) (v_newRoad : Nat → Int32) (v_road : Nat → Int32) (H : Heap) (locs : List Loc) (ls : Array Slot), lv_has ls 5 [(0, .ref (g.2.1 50)), (1, .int x1), (2, .int x2)] → GW g s (mkS σ [(3238, v_areKindsFound), (3212, v_isMeasured), (3203, v_posts)] [] [(72, v_lineP), (73, v_lineQ), (70, v_newRoad), (54, v_road)] []) H locs → k16 x1 x2 v_areKindsFound v_isMeasured v_posts v_lineP v_lineQ v_newRoad v_road = some (r, w_areKindsFound, w_isMeasured, w_posts, w_lineP, w_lineQ, w_newRoad, w_road) → Wg p l e 2 45 s m args below meth c g (some (.int r)) (mkS σ [(3238, w_areKindsFound), (3212, w_isMeasured), (3203, w_posts)] [] [(72, w_lineP), (73, w_lineQ), (70, w_newRoad), (54, w_road)] []) H locs (F0 m 16 ls [])) (F : Nat) (x1 : Int32) (x2 : Int32) (x3 : Int32) (v_areKindsFound : Int32) (v_isMeasured : Int32) (v_posts : Int32) (v_lineP : Nat → Int32) (v_lineQ : Nat → Int32) (v_newRoad : Nat → Int32) (v_road : Nat → Int32) (H : Heap) (locs : List Loc) (ls : Array Slot), lv_has ls 5 [(0, .ref (g.2.1 50)), (1, .int x1), (2, .int x2), (3, .int x3)] → GW g s (mkS σ [(3238, v_areKindsFound), (3212, v_isMeasured), (3203, v_posts)] [] [(72, v_lineP), (73, v_lineQ), (70, v_newRoad), (54, v_road)] []) H locs → M_lines_l28 k16 F x1 x2 x3 v_areKindsFound v_isMeasured v_posts v_lineP v_lineQ v_newRoad v_road = some (r, w_areKindsFound, w_isMeasured, w_posts, w_lineP, w_lineQ, w_newRoad, w_road) → Wg p l e 2 45 s m args below meth c g (some (.int r)) (mkS σ [(3238, w_areKindsFound), (3212, w_isMeasured), (3203, w_posts)] [] [(72, w_lineP), (73, w_lineQ), (70, w_newRoad), (54, w_road)] []) H locs (F0 m 28 ls []) := by
    intro k16 hk16 F
    induction F with
    | zero => intro x1 x2 x3 v_areKindsFound v_isMeasured v_posts v_lineP v_lineQ v_newRoad v_road H locs ls hl hG h; exact no_some h
    | succ F ih => intro x1 x2 x3 v_areKindsFound v_isMeasured v_posts v_lineP v_lineQ v_newRoad v_road H locs ls hl hG h; exact n28 k16 hk16 (fun x1 x2 x3 v_areKindsFound v_isMeasured v_posts v_lineP v_lineQ v_newRoad v_road => M_lines_l28 k16 F x1 x2 x3 v_areKindsFound v_isMeasured v_posts v_lineP v_lineQ v_newRoad v_road) ih x1 x2 x3 v_areKindsFound v_isMeasured v_posts v_lineP v_lineQ v_newRoad v_road H locs ls hl hG h
  have n189 : ∀ (k92 : Int32 → Int32 → Int32 → Int32 → Int32 → Int32 → (Nat → Int32) → (Nat → Int32) → (Nat → Int32) → (Nat → Int32) → Option (Int32 × Int32 × Int32 × Int32 × (Nat → Int32) × (Nat → Int32) × (Nat → Int32) × (Nat → Int32))) (hk92 : ∀ (x1 : Int32) (x2 : Int32) (x3 : Int32) (v_areKindsFound : Int32) (v_isMeasured : Int32) (v_posts : Int32) (v_lineP : Nat → Int32) (v_lineQ : Nat → Int32) (v_newRoad : Nat → Int32) (v_road : Nat → Int32) (H : Heap) (locs : List Loc) (ls : Array Slot), lv_has ls 5 [(0, .ref (g.2.1 50)), (1, .int x1), (2, .int x2), (3, .int x3)] → GW g s (mkS σ [(3238, v_areKindsFound), (3212, v_isMeasured), (3203, v_posts)] [] [(72, v_lineP), (73, v_lineQ), (70, v_newRoad), (54, v_road)] []) H locs → k92 x1 x2 x3 v_areKindsFound v_isMeasured v_posts v_lineP v_lineQ v_newRoad v_road = some (r, w_areKindsFound, w_isMeasured, w_posts, w_lineP, w_lineQ, w_newRoad, w_road) → Wg p l e 2 45 s m args below meth c g (some (.int r)) (mkS σ [(3238, w_areKindsFound), (3212, w_isMeasured), (3203, w_posts)] [] [(72, w_lineP), (73, w_lineQ), (70, w_newRoad), (54, w_road)] []) H locs (F0 m 92 ls [])) (x1 : Int32) (x2 : Int32) (x3 : Int32) (t1 : Int32) (t2 : Int32) (v_areKindsFound : Int32) (v_isMeasured : Int32) (v_posts : Int32) (v_lineP : Nat → Int32) (v_lineQ : Nat → Int32) (v_newRoad : Nat → Int32) (v_road : Nat → Int32) (H : Heap) (locs : List Loc) (ls : Array Slot), lv_has ls 5 [(0, .ref (g.2.1 50)), (1, .int x1), (2, .int x2), (3, .int x3)] → GW g s (mkS σ [(3238, v_areKindsFound), (3212, v_isMeasured), (3203, v_posts)] [] [(72, v_lineP), (73, v_lineQ), (70, v_newRoad), (54, v_road)] []) H locs → M_lines_n189 k92 x1 x2 x3 t1 t2 v_areKindsFound v_isMeasured v_posts v_lineP v_lineQ v_newRoad v_road = some (r, w_areKindsFound, w_isMeasured, w_posts, w_lineP, w_lineQ, w_newRoad, w_road) → Wg p l e 2 45 s m args below meth c g (some (.int r)) (mkS σ [(3238, w_areKindsFound), (3212, w_isMeasured), (3203, w_posts)] [] [(72, w_lineP), (73, w_lineQ), (70, w_newRoad), (54, w_road)] []) H locs (F0 m 189 ls [.int t2, .int t1, .ref (g.2.1 70)]) := by
    intro k92 hk92 x1 x2 x3 t1 t2 v_areKindsFound v_isMeasured v_posts v_lineP v_lineQ v_newRoad v_road H locs ls hl hG h
    unfold M_lines_n189 at h
    obtain ⟨hg5, h⟩ := gd_some h
    obtain ⟨hg6, h⟩ := gd_some h
    refine gx_zast (σ' := (mkS σ [(3238, v_areKindsFound), (3212, v_isMeasured), (3203, v_posts)] [] [(72, v_lineP), (73, v_lineQ), (70, (upd v_newRoad (t1.toNatClampNeg) t2)), (54, v_road)] [])) (f := v_newRoad) hx hb hK hG (ga_70 g _) hg5 hg6 ((gs_70 g _ _).trans (congrArg (g_cells g) (mk_c 2 rfl rfl))) dX9_lines_189 (fun H locs hG => ?_)
    refine lv_iinc (v := (x3 + (1 : Int32))) (lv' := [(3, .int (x3 + (1 : Int32))), (0, .ref (g.2.1 50)), (1, .int x1), (2, .int x2)]) hx hb dX9_lines_190 hl (k := 3) rfl (congrArg (fun z => x3 + z) (by decide)) (Nat.le_of_ble_eq_true rfl) rfl (fun ls hl => ?_)
    refine lv_goto (tgt := 92) hx hb dX9_lines_193 (by decide) ?_
    exact hk92 x1 x2 (x3 + (1 : Int32)) v_areKindsFound v_isMeasured v_posts v_lineP v_lineQ (upd v_newRoad (t1.toNatClampNeg) t2) v_road _ _ _ (lv_sub hl [1, 2, 3, 0] rfl) hG h
  have n188 : ∀ (k92 : Int32 → Int32 → Int32 → Int32 → Int32 → Int32 → (Nat → Int32) → (Nat → Int32) → (Nat → Int32) → (Nat → Int32) → Option (Int32 × Int32 × Int32 × Int32 × (Nat → Int32) × (Nat → Int32) × (Nat → Int32) × (Nat → Int32))) (hk92 : ∀ (x1 : Int32) (x2 : Int32) (x3 : Int32) (v_areKindsFound : Int32) (v_isMeasured : Int32) (v_posts : Int32) (v_lineP : Nat → Int32) (v_lineQ : Nat → Int32) (v_newRoad : Nat → Int32) (v_road : Nat → Int32) (H : Heap) (locs : List Loc) (ls : Array Slot), lv_has ls 5 [(0, .ref (g.2.1 50)), (1, .int x1), (2, .int x2), (3, .int x3)] → GW g s (mkS σ [(3238, v_areKindsFound), (3212, v_isMeasured), (3203, v_posts)] [] [(72, v_lineP), (73, v_lineQ), (70, v_newRoad), (54, v_road)] []) H locs → k92 x1 x2 x3 v_areKindsFound v_isMeasured v_posts v_lineP v_lineQ v_newRoad v_road = some (r, w_areKindsFound, w_isMeasured, w_posts, w_lineP, w_lineQ, w_newRoad, w_road) → Wg p l e 2 45 s m args below meth c g (some (.int r)) (mkS σ [(3238, w_areKindsFound), (3212, w_isMeasured), (3203, w_posts)] [] [(72, w_lineP), (73, w_lineQ), (70, w_newRoad), (54, w_road)] []) H locs (F0 m 92 ls [])) (x1 : Int32) (x2 : Int32) (x3 : Int32) (t1 : Int32) (v_areKindsFound : Int32) (v_isMeasured : Int32) (v_posts : Int32) (v_lineP : Nat → Int32) (v_lineQ : Nat → Int32) (v_newRoad : Nat → Int32) (v_road : Nat → Int32) (H : Heap) (locs : List Loc) (ls : Array Slot), lv_has ls 5 [(0, .ref (g.2.1 50)), (1, .int x1), (2, .int x2), (3, .int x3)] → GW g s (mkS σ [(3238, v_areKindsFound), (3212, v_isMeasured), (3203, v_posts)] [] [(72, v_lineP), (73, v_lineQ), (70, v_newRoad), (54, v_road)] []) H locs → M_lines_n188 k92 x1 x2 x3 t1 v_areKindsFound v_isMeasured v_posts v_lineP v_lineQ v_newRoad v_road = some (r, w_areKindsFound, w_isMeasured, w_posts, w_lineP, w_lineQ, w_newRoad, w_road) → Wg p l e 2 45 s m args below meth c g (some (.int r)) (mkS σ [(3238, w_areKindsFound), (3212, w_isMeasured), (3203, w_posts)] [] [(72, w_lineP), (73, w_lineQ), (70, w_newRoad), (54, w_road)] []) H locs (F0 m 188 ls [.int t1, .ref (g.2.1 70)]) := by
    intro k92 hk92 x1 x2 x3 t1 v_areKindsFound v_isMeasured v_posts v_lineP v_lineQ v_newRoad v_road H locs ls hl hG h
    unfold M_lines_n188 at h
    refine lv_iconst (v := (0 : Int32)) hx hb dX9_lines_188 (by decide) ?_
    exact n189 k92 hk92 x1 x2 x3 t1 (0 : Int32) v_areKindsFound v_isMeasured v_posts v_lineP v_lineQ v_newRoad v_road _ _ _ (lv_sub hl [0, 1, 2, 3] rfl) hG h
  have n162 : ∀ (k92 : Int32 → Int32 → Int32 → Int32 → Int32 → Int32 → (Nat → Int32) → (Nat → Int32) → (Nat → Int32) → (Nat → Int32) → Option (Int32 × Int32 × Int32 × Int32 × (Nat → Int32) × (Nat → Int32) × (Nat → Int32) × (Nat → Int32))) (hk92 : ∀ (x1 : Int32) (x2 : Int32) (x3 : Int32) (v_areKindsFound : Int32) (v_isMeasured : Int32) (v_posts : Int32) (v_lineP : Nat → Int32) (v_lineQ : Nat → Int32) (v_newRoad : Nat → Int32) (v_road : Nat → Int32) (H : Heap) (locs : List Loc) (ls : Array Slot), lv_has ls 5 [(0, .ref (g.2.1 50)), (1, .int x1), (2, .int x2), (3, .int x3)] → GW g s (mkS σ [(3238, v_areKindsFound), (3212, v_isMeasured), (3203, v_posts)] [] [(72, v_lineP), (73, v_lineQ), (70, v_newRoad), (54, v_road)] []) H locs → k92 x1 x2 x3 v_areKindsFound v_isMeasured v_posts v_lineP v_lineQ v_newRoad v_road = some (r, w_areKindsFound, w_isMeasured, w_posts, w_lineP, w_lineQ, w_newRoad, w_road) → Wg p l e 2 45 s m args below meth c g (some (.int r)) (mkS σ [(3238, w_areKindsFound), (3212, w_isMeasured), (3203, w_posts)] [] [(72, w_lineP), (73, w_lineQ), (70, w_newRoad), (54, w_road)] []) H locs (F0 m 92 ls [])) (x1 : Int32) (x2 : Int32) (x3 : Int32) (t0 : Int32) (v_areKindsFound : Int32) (v_isMeasured : Int32) (v_posts : Int32) (v_lineP : Nat → Int32) (v_lineQ : Nat → Int32) (v_newRoad : Nat → Int32) (v_road : Nat → Int32) (H : Heap) (locs : List Loc) (ls : Array Slot), lv_has ls 5 [(0, .ref (g.2.1 50)), (1, .int x1), (2, .int x2), (3, .int x3)] → GW g s (mkS σ [(3238, v_areKindsFound), (3212, v_isMeasured), (3203, v_posts)] [] [(72, v_lineP), (73, v_lineQ), (70, v_newRoad), (54, v_road)] []) H locs → M_lines_n162 k92 x1 x2 x3 t0 v_areKindsFound v_isMeasured v_posts v_lineP v_lineQ v_newRoad v_road = some (r, w_areKindsFound, w_isMeasured, w_posts, w_lineP, w_lineQ, w_newRoad, w_road) → Wg p l e 2 45 s m args below meth c g (some (.int r)) (mkS σ [(3238, w_areKindsFound), (3212, w_isMeasured), (3203, w_posts)] [] [(72, w_lineP), (73, w_lineQ), (70, w_newRoad), (54, w_road)] []) H locs (F0 m 162 ls [.int t0]) := by
    intro k92 hk92 x1 x2 x3 t0 v_areKindsFound v_isMeasured v_posts v_lineP v_lineQ v_newRoad v_road H locs ls hl hG h
    unfold M_lines_n162 at h
    refine lv_istore (lv' := [(4, .int t0), (0, .ref (g.2.1 50)), (1, .int x1), (2, .int x2), (3, .int x3)]) hx hb dX9_lines_162 hl (Nat.le_of_ble_eq_true rfl) rfl (fun ls hl => ?_)
    refine lv_aload_n hx hb dX9_lines_164 rfl (lv_at hl 1 rfl) ?_
    refine gx_get (v := .ref (g.2.1 70)) (C := RX9) (T := TX9) (N := 44) hx hb hts hinX9 hown hK hG (ga_50 g _) rfl 29 (by decide) hw4 rfl rfl dX9_lines_165 ?_
    refine lv_bipush (v := (32 : Int32)) hx hb dX9_lines_168 (by decide) ?_
    refine lv_iload_n hx hb dX9_lines_170 rfl (lv_at hl 3 rfl) ?_
    refine lv_imul hx hb dX9_lines_171 ?_
    refine lv_iload_n hx hb dX9_lines_172 rfl (lv_at hl 4 rfl) ?_
    refine lv_iadd hx hb dX9_lines_173 ?_
    refine lv_iload_n hx hb dX9_lines_174 rfl (lv_at hl 3 rfl) ?_
    refine lv_iload_n hx hb dX9_lines_175 rfl (lv_at hl 4 rfl) ?_
    refine lv_icmp_eq (tgt := 188) hx hb dX9_lines_176 (by decide) (fun c7 => ?_) (fun c7 => ?_)
    · have h := ite_t c7 h
      exact n188 k92 hk92 x1 x2 x3 (((32 : Int32) * x2) + x3) v_areKindsFound v_isMeasured v_posts v_lineP v_lineQ v_newRoad v_road _ _ _ (lv_sub hl [1, 2, 3, 4] rfl) hG h
    · have h := ite_f c7 h
      refine lv_iload hx hb dX9_lines_179 (lv_at hl 0 rfl) ?_
      refine lv_if_eq (tgt := 188) hx hb dX9_lines_181 (by decide) (fun c8 => ?_) (fun c8 => ?_)
      · have h := ite_t c8 h
        exact n188 k92 hk92 x1 x2 x3 (((32 : Int32) * x2) + x3) v_areKindsFound v_isMeasured v_posts v_lineP v_lineQ v_newRoad v_road _ _ _ (lv_sub hl [1, 2, 3, 4] rfl) hG h
      · have h := ite_f c8 h
        refine lv_iconst (v := (1 : Int32)) hx hb dX9_lines_184 (by decide) ?_
        refine lv_goto (tgt := 189) hx hb dX9_lines_185 (by decide) ?_
        exact n189 k92 hk92 x1 x2 x3 (((32 : Int32) * x2) + x3) (1 : Int32) v_areKindsFound v_isMeasured v_posts v_lineP v_lineQ v_newRoad v_road _ _ _ (lv_sub hl [1, 2, 3, 4] rfl) hG h
  have n157 : ∀ (k92 : Int32 → Int32 → Int32 → Int32 → Int32 → Int32 → (Nat → Int32) → (Nat → Int32) → (Nat → Int32) → (Nat → Int32) → Option (Int32 × Int32 × Int32 × Int32 × (Nat → Int32) × (Nat → Int32) × (Nat → Int32) × (Nat → Int32))) (hk92 : ∀ (x1 : Int32) (x2 : Int32) (x3 : Int32) (v_areKindsFound : Int32) (v_isMeasured : Int32) (v_posts : Int32) (v_lineP : Nat → Int32) (v_lineQ : Nat → Int32) (v_newRoad : Nat → Int32) (v_road : Nat → Int32) (H : Heap) (locs : List Loc) (ls : Array Slot), lv_has ls 5 [(0, .ref (g.2.1 50)), (1, .int x1), (2, .int x2), (3, .int x3)] → GW g s (mkS σ [(3238, v_areKindsFound), (3212, v_isMeasured), (3203, v_posts)] [] [(72, v_lineP), (73, v_lineQ), (70, v_newRoad), (54, v_road)] []) H locs → k92 x1 x2 x3 v_areKindsFound v_isMeasured v_posts v_lineP v_lineQ v_newRoad v_road = some (r, w_areKindsFound, w_isMeasured, w_posts, w_lineP, w_lineQ, w_newRoad, w_road) → Wg p l e 2 45 s m args below meth c g (some (.int r)) (mkS σ [(3238, w_areKindsFound), (3212, w_isMeasured), (3203, w_posts)] [] [(72, w_lineP), (73, w_lineQ), (70, w_newRoad), (54, w_road)] []) H locs (F0 m 92 ls [])) (x1 : Int32) (x2 : Int32) (x3 : Int32) (v_areKindsFound : Int32) (v_isMeasured : Int32) (v_posts : Int32) (v_lineP : Nat → Int32) (v_lineQ : Nat → Int32) (v_newRoad : Nat → Int32) (v_road : Nat → Int32) (H : Heap) (locs : List Loc) (ls : Array Slot), lv_has ls 5 [(0, .ref (g.2.1 50)), (1, .int x1), (2, .int x2), (3, .int x3)] → GW g s (mkS σ [(3238, v_areKindsFound), (3212, v_isMeasured), (3203, v_posts)] [] [(72, v_lineP), (73, v_lineQ), (70, v_newRoad), (54, v_road)] []) H locs → M_lines_n157 k92 x1 x2 x3 v_areKindsFound v_isMeasured v_posts v_lineP v_lineQ v_newRoad v_road = some (r, w_areKindsFound, w_isMeasured, w_posts, w_lineP, w_lineQ, w_newRoad, w_road) → Wg p l e 2 45 s m args below meth c g (some (.int r)) (mkS σ [(3238, w_areKindsFound), (3212, w_isMeasured), (3203, w_posts)] [] [(72, w_lineP), (73, w_lineQ), (70, w_newRoad), (54, w_road)] []) H locs (F0 m 157 ls []) := by
    intro k92 hk92 x1 x2 x3 v_areKindsFound v_isMeasured v_posts v_lineP v_lineQ v_newRoad v_road H locs ls hl hG h
    unfold M_lines_n157 at h
    refine lv_iconst (v := (1 : Int32)) hx hb dX9_lines_157 (by decide) ?_
    refine lv_goto (tgt := 162) hx hb dX9_lines_158 (by decide) ?_
    exact n162 k92 hk92 x1 x2 x3 (1 : Int32) v_areKindsFound v_isMeasured v_posts v_lineP v_lineQ v_newRoad v_road _ _ _ (lv_sub hl [0, 1, 2, 3] rfl) hG h
  have n196 : ∀ (k85 : Int32 → Int32 → Int32 → Int32 → Int32 → (Nat → Int32) → (Nat → Int32) → (Nat → Int32) → (Nat → Int32) → Option (Int32 × Int32 × Int32 × Int32 × (Nat → Int32) × (Nat → Int32) × (Nat → Int32) × (Nat → Int32))) (hk85 : ∀ (x1 : Int32) (x2 : Int32) (v_areKindsFound : Int32) (v_isMeasured : Int32) (v_posts : Int32) (v_lineP : Nat → Int32) (v_lineQ : Nat → Int32) (v_newRoad : Nat → Int32) (v_road : Nat → Int32) (H : Heap) (locs : List Loc) (ls : Array Slot), lv_has ls 5 [(0, .ref (g.2.1 50)), (1, .int x1), (2, .int x2)] → GW g s (mkS σ [(3238, v_areKindsFound), (3212, v_isMeasured), (3203, v_posts)] [] [(72, v_lineP), (73, v_lineQ), (70, v_newRoad), (54, v_road)] []) H locs → k85 x1 x2 v_areKindsFound v_isMeasured v_posts v_lineP v_lineQ v_newRoad v_road = some (r, w_areKindsFound, w_isMeasured, w_posts, w_lineP, w_lineQ, w_newRoad, w_road) → Wg p l e 2 45 s m args below meth c g (some (.int r)) (mkS σ [(3238, w_areKindsFound), (3212, w_isMeasured), (3203, w_posts)] [] [(72, w_lineP), (73, w_lineQ), (70, w_newRoad), (54, w_road)] []) H locs (F0 m 85 ls [])) (x1 : Int32) (x2 : Int32) (v_areKindsFound : Int32) (v_isMeasured : Int32) (v_posts : Int32) (v_lineP : Nat → Int32) (v_lineQ : Nat → Int32) (v_newRoad : Nat → Int32) (v_road : Nat → Int32) (H : Heap) (locs : List Loc) (ls : Array Slot), lv_has ls 5 [(0, .ref (g.2.1 50)), (1, .int x1), (2, .int x2)] → GW g s (mkS σ [(3238, v_areKindsFound), (3212, v_isMeasured), (3203, v_posts)] [] [(72, v_lineP), (73, v_lineQ), (70, v_newRoad), (54, v_road)] []) H locs → M_lines_n196 k85 x1 x2 v_areKindsFound v_isMeasured v_posts v_lineP v_lineQ v_newRoad v_road = some (r, w_areKindsFound, w_isMeasured, w_posts, w_lineP, w_lineQ, w_newRoad, w_road) → Wg p l e 2 45 s m args below meth c g (some (.int r)) (mkS σ [(3238, w_areKindsFound), (3212, w_isMeasured), (3203, w_posts)] [] [(72, w_lineP), (73, w_lineQ), (70, w_newRoad), (54, w_road)] []) H locs (F0 m 196 ls []) := by
    intro k85 hk85 x1 x2 v_areKindsFound v_isMeasured v_posts v_lineP v_lineQ v_newRoad v_road H locs ls hl hG h
    unfold M_lines_n196 at h
    refine lv_iinc (v := (x2 + (1 : Int32))) (lv' := [(2, .int (x2 + (1 : Int32))), (0, .ref (g.2.1 50)), (1, .int x1)]) hx hb dX9_lines_196 hl (k := 2) rfl (congrArg (fun z => x2 + z) (by decide)) (Nat.le_of_ble_eq_true rfl) rfl (fun ls hl => ?_)
    refine lv_goto (tgt := 85) hx hb dX9_lines_199 (by decide) ?_
    exact hk85 x1 (x2 + (1 : Int32)) v_areKindsFound v_isMeasured v_posts v_lineP v_lineQ v_newRoad v_road _ _ _ (lv_sub hl [1, 2, 0] rfl) hG h
  have n92 : ∀ (k85 : Int32 → Int32 → Int32 → Int32 → Int32 → (Nat → Int32) → (Nat → Int32) → (Nat → Int32) → (Nat → Int32) → Option (Int32 × Int32 × Int32 × Int32 × (Nat → Int32) × (Nat → Int32) × (Nat → Int32) × (Nat → Int32))) (hk85 : ∀ (x1 : Int32) (x2 : Int32) (v_areKindsFound : Int32) (v_isMeasured : Int32) (v_posts : Int32) (v_lineP : Nat → Int32) (v_lineQ : Nat → Int32) (v_newRoad : Nat → Int32) (v_road : Nat → Int32) (H : Heap) (locs : List Loc) (ls : Array Slot), lv_has ls 5 [(0, .ref (g.2.1 50)), (1, .int x1), (2, .int x2)] → GW g s (mkS σ [(3238, v_areKindsFound), (3212, v_isMeasured), (3203, v_posts)] [] [(72, v_lineP), (73, v_lineQ), (70, v_newRoad), (54, v_road)] []) H locs → k85 x1 x2 v_areKindsFound v_isMeasured v_posts v_lineP v_lineQ v_newRoad v_road = some (r, w_areKindsFound, w_isMeasured, w_posts, w_lineP, w_lineQ, w_newRoad, w_road) → Wg p l e 2 45 s m args below meth c g (some (.int r)) (mkS σ [(3238, w_areKindsFound), (3212, w_isMeasured), (3203, w_posts)] [] [(72, w_lineP), (73, w_lineQ), (70, w_newRoad), (54, w_road)] []) H locs (F0 m 85 ls [])) (k92 : Int32 → Int32 → Int32 → Int32 → Int32 → Int32 → (Nat → Int32) → (Nat → Int32) → (Nat → Int32) → (Nat → Int32) → Option (Int32 × Int32 × Int32 × Int32 × (Nat → Int32) × (Nat → Int32) × (Nat → Int32) × (Nat → Int32))) (hk92 : ∀ (x1 : Int32) (x2 : Int32) (x3 : Int32) (v_areKindsFound : Int32) (v_isMeasured : Int32) (v_posts : Int32) (v_lineP : Nat → Int32) (v_lineQ : Nat → Int32) (v_newRoad : Nat → Int32) (v_road : Nat → Int32) (H : Heap) (locs : List Loc) (ls : Array Slot), lv_has ls 5 [(0, .ref (g.2.1 50)), (1, .int x1), (2, .int x2), (3, .int x3)] → GW g s (mkS σ [(3238, v_areKindsFound), (3212, v_isMeasured), (3203, v_posts)] [] [(72, v_lineP), (73, v_lineQ), (70, v_newRoad), (54, v_road)] []) H locs → k92 x1 x2 x3 v_areKindsFound v_isMeasured v_posts v_lineP v_lineQ v_newRoad v_road = some (r, w_areKindsFound, w_isMeasured, w_posts, w_lineP, w_lineQ, w_newRoad, w_road) → Wg p l e 2 45 s m args below meth c g (some (.int r)) (mkS σ [(3238, w_areKindsFound), (3212, w_isMeasured), (3203, w_posts)] [] [(72, w_lineP), (73, w_lineQ), (70, w_newRoad), (54, w_road)] []) H locs (F0 m 92 ls [])) (x1 : Int32) (x2 : Int32) (x3 : Int32) (v_areKindsFound : Int32) (v_isMeasured : Int32) (v_posts : Int32) (v_lineP : Nat → Int32) (v_lineQ : Nat → Int32) (v_newRoad : Nat → Int32) (v_road : Nat → Int32) (H : Heap) (locs : List Loc) (ls : Array Slot), lv_has ls 5 [(0, .ref (g.2.1 50)), (1, .int x1), (2, .int x2), (3, .int x3)] → GW g s (mkS σ [(3238, v_areKindsFound), (3212, v_isMeasured), (3203, v_posts)] [] [(72, v_lineP), (73, v_lineQ), (70, v_newRoad), (54, v_road)] []) H locs → M_lines_n92 k85 k92 x1 x2 x3 v_areKindsFound v_isMeasured v_posts v_lineP v_lineQ v_newRoad v_road = some (r, w_areKindsFound, w_isMeasured, w_posts, w_lineP, w_lineQ, w_newRoad, w_road) → Wg p l e 2 45 s m args below meth c g (some (.int r)) (mkS σ [(3238, w_areKindsFound), (3212, w_isMeasured), (3203, w_posts)] [] [(72, w_lineP), (73, w_lineQ), (70, w_newRoad), (54, w_road)] []) H locs (F0 m 92 ls []) := by
    intro k85 hk85 k92 hk92 x1 x2 x3 v_areKindsFound v_isMeasured v_posts v_lineP v_lineQ v_newRoad v_road H locs ls hl hG h
    unfold M_lines_n92 at h
    refine lv_iload_n hx hb dX9_lines_92 rfl (lv_at hl 3 rfl) ?_
    refine lv_iload_n hx hb dX9_lines_93 rfl (lv_at hl 1 rfl) ?_
    refine lv_icmp_ge (tgt := 196) hx hb dX9_lines_94 (by decide) (fun c9 => ?_) (fun c9 => ?_)
    · have h := ite_t c9 h
      exact n196 k85 hk85 x1 x2 v_areKindsFound v_isMeasured v_posts v_lineP v_lineQ v_newRoad v_road _ _ _ (lv_sub hl [0, 1, 2] rfl) hG h
    · have h := ite_f c9 h
      refine lv_aload_n hx hb dX9_lines_97 rfl (lv_at hl 0 rfl) ?_
      refine gx_get (v := .ref (g.2.1 72)) (C := RX9) (T := TX9) (N := 44) hx hb hts hinX9 hown hK hG (ga_50 g _) rfl 31 (by decide) hw2 rfl rfl dX9_lines_98 ?_
      refine lv_iload_n hx hb dX9_lines_101 rfl (lv_at hl 2 rfl) ?_
      obtain ⟨hg10, h⟩ := gd_some h
      refine gx_iald (f := v_lineP) hx hb hK hG (ga_72 g _) hg10 dX9_lines_102 ?_
      refine lv_aload_n hx hb dX9_lines_103 rfl (lv_at hl 0 rfl) ?_
      refine gx_get (v := .ref (g.2.1 72)) (C := RX9) (T := TX9) (N := 44) hx hb hts hinX9 hown hK hG (ga_50 g _) rfl 31 (by decide) hw2 rfl rfl dX9_lines_104 ?_
      refine lv_iload_n hx hb dX9_lines_107 rfl (lv_at hl 3 rfl) ?_
      obtain ⟨hg11, h⟩ := gd_some h
      refine gx_iald (f := v_lineP) hx hb hK hG (ga_72 g _) hg11 dX9_lines_108 ?_
      refine lv_icmp_eq (tgt := 157) hx hb dX9_lines_109 (by decide) (fun c12 => ?_) (fun c12 => ?_)
      · have h := ite_t c12 h
        exact n157 k92 hk92 x1 x2 x3 v_areKindsFound v_isMeasured v_posts v_lineP v_lineQ v_newRoad v_road _ _ _ (lv_sub hl [0, 1, 2, 3] rfl) hG h
      · have h := ite_f c12 h
        refine lv_aload_n hx hb dX9_lines_112 rfl (lv_at hl 0 rfl) ?_
        refine gx_get (v := .ref (g.2.1 72)) (C := RX9) (T := TX9) (N := 44) hx hb hts hinX9 hown hK hG (ga_50 g _) rfl 31 (by decide) hw2 rfl rfl dX9_lines_113 ?_
        refine lv_iload_n hx hb dX9_lines_116 rfl (lv_at hl 2 rfl) ?_
        refine gx_iald (f := v_lineP) hx hb hK hG (ga_72 g _) hg10 dX9_lines_117 ?_
        refine lv_aload_n hx hb dX9_lines_118 rfl (lv_at hl 0 rfl) ?_
        refine gx_get (v := .ref (g.2.1 73)) (C := RX9) (T := TX9) (N := 44) hx hb hts hinX9 hown hK hG (ga_50 g _) rfl 32 (by decide) hw3 rfl rfl dX9_lines_119 ?_
        refine lv_iload_n hx hb dX9_lines_122 rfl (lv_at hl 3 rfl) ?_
        refine gx_iald (f := v_lineQ) hx hb hK hG (ga_73 g _) hg11 dX9_lines_123 ?_
        refine lv_icmp_eq (tgt := 157) hx hb dX9_lines_124 (by decide) (fun c13 => ?_) (fun c13 => ?_)
        · have h := ite_t c13 h
          exact n157 k92 hk92 x1 x2 x3 v_areKindsFound v_isMeasured v_posts v_lineP v_lineQ v_newRoad v_road _ _ _ (lv_sub hl [0, 1, 2, 3] rfl) hG h
        · have h := ite_f c13 h
          refine lv_aload_n hx hb dX9_lines_127 rfl (lv_at hl 0 rfl) ?_
          refine gx_get (v := .ref (g.2.1 73)) (C := RX9) (T := TX9) (N := 44) hx hb hts hinX9 hown hK hG (ga_50 g _) rfl 32 (by decide) hw3 rfl rfl dX9_lines_128 ?_
          refine lv_iload_n hx hb dX9_lines_131 rfl (lv_at hl 2 rfl) ?_
          refine gx_iald (f := v_lineQ) hx hb hK hG (ga_73 g _) hg10 dX9_lines_132 ?_
          refine lv_aload_n hx hb dX9_lines_133 rfl (lv_at hl 0 rfl) ?_
          refine gx_get (v := .ref (g.2.1 72)) (C := RX9) (T := TX9) (N := 44) hx hb hts hinX9 hown hK hG (ga_50 g _) rfl 31 (by decide) hw2 rfl rfl dX9_lines_134 ?_
          refine lv_iload_n hx hb dX9_lines_137 rfl (lv_at hl 3 rfl) ?_
          refine gx_iald (f := v_lineP) hx hb hK hG (ga_72 g _) hg11 dX9_lines_138 ?_
          refine lv_icmp_eq (tgt := 157) hx hb dX9_lines_139 (by decide) (fun c14 => ?_) (fun c14 => ?_)
          · have h := ite_t c14 h
            exact n157 k92 hk92 x1 x2 x3 v_areKindsFound v_isMeasured v_posts v_lineP v_lineQ v_newRoad v_road _ _ _ (lv_sub hl [0, 1, 2, 3] rfl) hG h
          · have h := ite_f c14 h
            refine lv_aload_n hx hb dX9_lines_142 rfl (lv_at hl 0 rfl) ?_
            refine gx_get (v := .ref (g.2.1 73)) (C := RX9) (T := TX9) (N := 44) hx hb hts hinX9 hown hK hG (ga_50 g _) rfl 32 (by decide) hw3 rfl rfl dX9_lines_143 ?_
            refine lv_iload_n hx hb dX9_lines_146 rfl (lv_at hl 2 rfl) ?_
            refine gx_iald (f := v_lineQ) hx hb hK hG (ga_73 g _) hg10 dX9_lines_147 ?_
            refine lv_aload_n hx hb dX9_lines_148 rfl (lv_at hl 0 rfl) ?_
            refine gx_get (v := .ref (g.2.1 73)) (C := RX9) (T := TX9) (N := 44) hx hb hts hinX9 hown hK hG (ga_50 g _) rfl 32 (by decide) hw3 rfl rfl dX9_lines_149 ?_
            refine lv_iload_n hx hb dX9_lines_152 rfl (lv_at hl 3 rfl) ?_
            refine gx_iald (f := v_lineQ) hx hb hK hG (ga_73 g _) hg11 dX9_lines_153 ?_
            refine lv_icmp_ne (tgt := 161) hx hb dX9_lines_154 (by decide) (fun c15 => ?_) (fun c15 => ?_)
            · have h := ite_f c15 h
              refine lv_iconst (v := (0 : Int32)) hx hb dX9_lines_161 (by decide) ?_
              exact n162 k92 hk92 x1 x2 x3 (0 : Int32) v_areKindsFound v_isMeasured v_posts v_lineP v_lineQ v_newRoad v_road _ _ _ (lv_sub hl [0, 1, 2, 3] rfl) hG h
            · have h := ite_t c15 h
              exact n157 k92 hk92 x1 x2 x3 v_areKindsFound v_isMeasured v_posts v_lineP v_lineQ v_newRoad v_road _ _ _ (lv_sub hl [0, 1, 2, 3] rfl) hG h
  have l92 : ∀ (k85 : Int32 → Int32 → Int32 → Int32 → Int32 → (Nat → Int32) → (Nat → Int32) → (Nat → Int32) → (Nat → Int32) → Option (Int32 × Int32 × Int32 × Int32 × (Nat → Int32) × (Nat → Int32) × (Nat → Int32) × (Nat → Int32))) (hk85 : ∀ (x1 : Int32) (x2 : Int32) (v_areKindsFound : Int32) (v_isMeasured : Int32) (v_posts : Int32) (v_lineP : Nat → Int32) (v_lineQ : Nat → Int32) (v_newRoad : Nat → Int32) (v_road : Nat → Int32) (H : Heap) (locs : List Loc) (ls : Array Slot), lv_has ls 5 [(0, .ref (g.2.1 50)), (1, .int x1), (2, .int x2)] → GW g s (mkS σ [(3238, v_areKindsFound), (3212, v_isMeasured), (3203, v_posts)] [] [(72, v_lineP), (73, v_lineQ), (70, v_newRoad), (54, v_road)] []) H locs → k85 x1 x2 v_areKindsFound v_isMeasured v_posts v_lineP v_lineQ v_newRoad v_road = some (r, w_areKindsFound, w_isMeasured, w_posts, w_lineP, w_lineQ, w_newRoad, w_road) → Wg p l e 2 45 s m args below meth c g (some (.int r)) (mkS σ [(3238, w_areKindsFound), (3212, w_isMeasured), (3203, w_posts)] [] [(72, w_lineP), (73, w_lineQ), (70, w_newRoad), (54, w_road)] []) H locs (F0 m 85 ls [])) (F : Nat) (x1 : Int32) (x2 : Int32) (x3 : Int32) (v_areKindsFound : Int32) (v_isMeasured : Int32) (v_posts : Int32) (v_lineP : Nat → Int32) (v_lineQ : Nat → Int32) (v_newRoad : Nat → Int32) (v_road : Nat → Int32) (H : Heap) (locs : List Loc) (ls : Array Slot), lv_has ls 5 [(0, .ref (g.2.1 50)), (1, .int x1), (2, .int x2), (3, .int x3)] → GW g s (mkS σ [(3238, v_areKindsFound), (3212, v_isMeasured), (3203, v_posts)] [] [(72, v_lineP), (73, v_lineQ), (70, v_newRoad), (54, v_road)] []) H locs → M_lines_l92 k85 F x1 x2 x3 v_areKindsFound v_isMeasured v_posts v_lineP v_lineQ v_newRoad v_road = some (r, w_areKindsFound, w_isMeasured, w_posts, w_lineP, w_lineQ, w_newRoad, w_road) → Wg p l e 2 45 s m args below meth c g (some (.int r)) (mkS σ [(3238, w_areKindsFound), (3212, w_isMeasured), (3203, w_posts)] [] [(72, w_lineP), (73, w_lineQ), (70, w_newRoad), (54, w_road)] []) H locs (F0 m 92 ls []) := by
    intro k85 hk85 F
    induction F with
    | zero => intro x1 x2 x3 v_areKindsFound v_isMeasured v_posts v_lineP v_lineQ v_newRoad v_road H locs ls hl hG h; exact no_some h
    | succ F ih => intro x1 x2 x3 v_areKindsFound v_isMeasured v_posts v_lineP v_lineQ v_newRoad v_road H locs ls hl hG h; exact n92 k85 hk85 (fun x1 x2 x3 v_areKindsFound v_isMeasured v_posts v_lineP v_lineQ v_newRoad v_road => M_lines_l92 k85 F x1 x2 x3 v_areKindsFound v_isMeasured v_posts v_lineP v_lineQ v_newRoad v_road) ih x1 x2 x3 v_areKindsFound v_isMeasured v_posts v_lineP v_lineQ v_newRoad v_road H locs ls hl hG h
  have n202 : ∀ (x1 : Int32) (v_areKindsFound : Int32) (v_isMeasured : Int32) (v_posts : Int32) (v_lineP : Nat → Int32) (v_lineQ : Nat → Int32) (v_newRoad : Nat → Int32) (v_road : Nat → Int32) (H : Heap) (locs : List Loc) (ls : Array Slot), lv_has ls 5 [(0, .ref (g.2.1 50)), (1, .int x1)] → GW g s (mkS σ [(3238, v_areKindsFound), (3212, v_isMeasured), (3203, v_posts)] [] [(72, v_lineP), (73, v_lineQ), (70, v_newRoad), (54, v_road)] []) H locs → M_lines_n202 x1 v_areKindsFound v_isMeasured v_posts v_lineP v_lineQ v_newRoad v_road = some (r, w_areKindsFound, w_isMeasured, w_posts, w_lineP, w_lineQ, w_newRoad, w_road) → Wg p l e 2 45 s m args below meth c g (some (.int r)) (mkS σ [(3238, w_areKindsFound), (3212, w_isMeasured), (3203, w_posts)] [] [(72, w_lineP), (73, w_lineQ), (70, w_newRoad), (54, w_road)] []) H locs (F0 m 202 ls []) := by
    intro x1 v_areKindsFound v_isMeasured v_posts v_lineP v_lineQ v_newRoad v_road H locs ls hl hG h
    unfold M_lines_n202 at h
    refine lv_aload_n hx hb dX9_lines_202 rfl (lv_at hl 0 rfl) ?_
    refine lv_iload_n hx hb dX9_lines_203 rfl (lv_at hl 1 rfl) ?_
    obtain ⟨z16, hc17, h⟩ := bnd_some h
    refine gx_cV (σ' := (mkS σ [(3238, z16.1), (3212, z16.2.1), (3203, z16.2.2.1)] [] [(72, v_lineP), (73, v_lineQ), (70, v_newRoad), (54, z16.2.2.2)] [])) (r := none) (rest := []) (As := [.int x1]) hS9 (c_M_become l g (mkS σ [(3238, v_areKindsFound), (3212, v_isMeasured), (3203, v_posts)] [] [(72, v_lineP), (73, v_lineQ), (70, v_newRoad), (54, v_road)] []) x1 z16.1 z16.2.1 z16.2.2.1 z16.2.2.2 hc17) (mk_mk rfl rfl rfl rfl) (cwV 1 hts gX9_lines_X9_become rfl rfl rfl (by decide +kernel) ⟨Nat.le_of_ble_eq_true rfl, Nat.le_of_ble_eq_true rfl⟩) hK hG (ga_50 g _) rfl rfl rfl hl.1 rfl (Nat.le_of_ble_eq_true rfl) dX9_lines_204 (fun H locs hG => ?_)
    refine W.eq (g2 := F0 m 207 ls []) rfl ?_
    refine lv_iload_n hx hb dX9_lines_207 rfl (lv_at hl 1 rfl) ?_
    cases h
    exact gx_iret hx hb hr hlocks hG dX9_lines_208
  have n85 : ∀ (k85 : Int32 → Int32 → Int32 → Int32 → Int32 → (Nat → Int32) → (Nat → Int32) → (Nat → Int32) → (Nat → Int32) → Option (Int32 × Int32 × Int32 × Int32 × (Nat → Int32) × (Nat → Int32) × (Nat → Int32) × (Nat → Int32))) (hk85 : ∀ (x1 : Int32) (x2 : Int32) (v_areKindsFound : Int32) (v_isMeasured : Int32) (v_posts : Int32) (v_lineP : Nat → Int32) (v_lineQ : Nat → Int32) (v_newRoad : Nat → Int32) (v_road : Nat → Int32) (H : Heap) (locs : List Loc) (ls : Array Slot), lv_has ls 5 [(0, .ref (g.2.1 50)), (1, .int x1), (2, .int x2)] → GW g s (mkS σ [(3238, v_areKindsFound), (3212, v_isMeasured), (3203, v_posts)] [] [(72, v_lineP), (73, v_lineQ), (70, v_newRoad), (54, v_road)] []) H locs → k85 x1 x2 v_areKindsFound v_isMeasured v_posts v_lineP v_lineQ v_newRoad v_road = some (r, w_areKindsFound, w_isMeasured, w_posts, w_lineP, w_lineQ, w_newRoad, w_road) → Wg p l e 2 45 s m args below meth c g (some (.int r)) (mkS σ [(3238, w_areKindsFound), (3212, w_isMeasured), (3203, w_posts)] [] [(72, w_lineP), (73, w_lineQ), (70, w_newRoad), (54, w_road)] []) H locs (F0 m 85 ls [])) (x1 : Int32) (x2 : Int32) (v_areKindsFound : Int32) (v_isMeasured : Int32) (v_posts : Int32) (v_lineP : Nat → Int32) (v_lineQ : Nat → Int32) (v_newRoad : Nat → Int32) (v_road : Nat → Int32) (H : Heap) (locs : List Loc) (ls : Array Slot), lv_has ls 5 [(0, .ref (g.2.1 50)), (1, .int x1), (2, .int x2)] → GW g s (mkS σ [(3238, v_areKindsFound), (3212, v_isMeasured), (3203, v_posts)] [] [(72, v_lineP), (73, v_lineQ), (70, v_newRoad), (54, v_road)] []) H locs → M_lines_n85 k85 x1 x2 v_areKindsFound v_isMeasured v_posts v_lineP v_lineQ v_newRoad v_road = some (r, w_areKindsFound, w_isMeasured, w_posts, w_lineP, w_lineQ, w_newRoad, w_road) → Wg p l e 2 45 s m args below meth c g (some (.int r)) (mkS σ [(3238, w_areKindsFound), (3212, w_isMeasured), (3203, w_posts)] [] [(72, w_lineP), (73, w_lineQ), (70, w_newRoad), (54, w_road)] []) H locs (F0 m 85 ls []) := by
    intro k85 hk85 x1 x2 v_areKindsFound v_isMeasured v_posts v_lineP v_lineQ v_newRoad v_road H locs ls hl hG h
    unfold M_lines_n85 at h
    refine lv_iload_n hx hb dX9_lines_85 rfl (lv_at hl 2 rfl) ?_
    refine lv_iload_n hx hb dX9_lines_86 rfl (lv_at hl 1 rfl) ?_
    refine lv_icmp_ge (tgt := 202) hx hb dX9_lines_87 (by decide) (fun c18 => ?_) (fun c18 => ?_)
    · have h := ite_t c18 h
      exact n202 x1 v_areKindsFound v_isMeasured v_posts v_lineP v_lineQ v_newRoad v_road _ _ _ (lv_sub hl [0, 1] rfl) hG h
    · have h := ite_f c18 h
      refine lv_iconst (v := (0 : Int32)) hx hb dX9_lines_90 (by decide) ?_
      refine lv_istore_n (lv' := [(3, .int (0 : Int32)), (0, .ref (g.2.1 50)), (1, .int x1), (2, .int x2)]) hx hb dX9_lines_91 rfl hl (Nat.le_of_ble_eq_true rfl) rfl (fun ls hl => ?_)
      exact l92 k85 hk85 FUEL x1 x2 (0 : Int32) v_areKindsFound v_isMeasured v_posts v_lineP v_lineQ v_newRoad v_road _ _ _ (lv_sub hl [1, 2, 3, 0] rfl) hG h
  have l85 : ∀  (F : Nat) (x1 : Int32) (x2 : Int32) (v_areKindsFound : Int32) (v_isMeasured : Int32) (v_posts : Int32) (v_lineP : Nat → Int32) (v_lineQ : Nat → Int32) (v_newRoad : Nat → Int32) (v_road : Nat → Int32) (H : Heap) (locs : List Loc) (ls : Array Slot), lv_has ls 5 [(0, .ref (g.2.1 50)), (1, .int x1), (2, .int x2)] → GW g s (mkS σ [(3238, v_areKindsFound), (3212, v_isMeasured), (3203, v_posts)] [] [(72, v_lineP), (73, v_lineQ), (70, v_newRoad), (54, v_road)] []) H locs → M_lines_l85 F x1 x2 v_areKindsFound v_isMeasured v_posts v_lineP v_lineQ v_newRoad v_road = some (r, w_areKindsFound, w_isMeasured, w_posts, w_lineP, w_lineQ, w_newRoad, w_road) → Wg p l e 2 45 s m args below meth c g (some (.int r)) (mkS σ [(3238, w_areKindsFound), (3212, w_isMeasured), (3203, w_posts)] [] [(72, w_lineP), (73, w_lineQ), (70, w_newRoad), (54, w_road)] []) H locs (F0 m 85 ls []) := by
    intro F
    induction F with
    | zero => intro x1 x2 v_areKindsFound v_isMeasured v_posts v_lineP v_lineQ v_newRoad v_road H locs ls hl hG h; exact no_some h
    | succ F ih => intro x1 x2 v_areKindsFound v_isMeasured v_posts v_lineP v_lineQ v_newRoad v_road H locs ls hl hG h; exact n85 (fun x1 x2 v_areKindsFound v_isMeasured v_posts v_lineP v_lineQ v_newRoad v_road => M_lines_l85 F x1 x2 v_areKindsFound v_isMeasured v_posts v_lineP v_lineQ v_newRoad v_road) ih x1 x2 v_areKindsFound v_isMeasured v_posts v_lineP v_lineQ v_newRoad v_road H locs ls hl hG h
  have n79 : ∀ (x1 : Int32) (v_areKindsFound : Int32) (v_isMeasured : Int32) (v_posts : Int32) (v_lineP : Nat → Int32) (v_lineQ : Nat → Int32) (v_newRoad : Nat → Int32) (v_road : Nat → Int32) (H : Heap) (locs : List Loc) (ls : Array Slot), lv_has ls 5 [(0, .ref (g.2.1 50)), (1, .int x1)] → GW g s (mkS σ [(3238, v_areKindsFound), (3212, v_isMeasured), (3203, v_posts)] [] [(72, v_lineP), (73, v_lineQ), (70, v_newRoad), (54, v_road)] []) H locs → M_lines_n79 x1 v_areKindsFound v_isMeasured v_posts v_lineP v_lineQ v_newRoad v_road = some (r, w_areKindsFound, w_isMeasured, w_posts, w_lineP, w_lineQ, w_newRoad, w_road) → Wg p l e 2 45 s m args below meth c g (some (.int r)) (mkS σ [(3238, w_areKindsFound), (3212, w_isMeasured), (3203, w_posts)] [] [(72, w_lineP), (73, w_lineQ), (70, w_newRoad), (54, w_road)] []) H locs (F0 m 79 ls []) := by
    intro x1 v_areKindsFound v_isMeasured v_posts v_lineP v_lineQ v_newRoad v_road H locs ls hl hG h
    unfold M_lines_n79 at h
    refine lv_aload_n hx hb dX9_lines_79 rfl (lv_at hl 0 rfl) ?_
    obtain ⟨z19, hc20, h⟩ := bnd_some h
    refine gx_cV (σ' := (mkS σ [(3238, v_areKindsFound), (3212, v_isMeasured), (3203, v_posts)] [] [(72, v_lineP), (73, v_lineQ), (70, z19), (54, v_road)] [])) (r := none) (rest := []) (As := []) hS9 (c_M_clearNew l g (mkS σ [(3238, v_areKindsFound), (3212, v_isMeasured), (3203, v_posts)] [] [(72, v_lineP), (73, v_lineQ), (70, v_newRoad), (54, v_road)] []) z19 hc20) (mk_mk rfl rfl rfl rfl) (cwV 0 hts gX9_lines_X9_clearNew rfl rfl rfl (by decide +kernel) ⟨Nat.le_of_ble_eq_true rfl, Nat.le_of_ble_eq_true rfl⟩) hK hG (ga_50 g _) rfl rfl rfl hl.1 rfl (Nat.le_of_ble_eq_true rfl) dX9_lines_80 (fun H locs hG => ?_)
    refine W.eq (g2 := F0 m 83 ls []) rfl ?_
    refine lv_iconst (v := (0 : Int32)) hx hb dX9_lines_83 (by decide) ?_
    refine lv_istore_n (lv' := [(2, .int (0 : Int32)), (0, .ref (g.2.1 50)), (1, .int x1)]) hx hb dX9_lines_84 rfl hl (Nat.le_of_ble_eq_true rfl) rfl (fun ls hl => ?_)
    exact l85 FUEL x1 (0 : Int32) v_areKindsFound v_isMeasured v_posts v_lineP v_lineQ z19 v_road _ _ _ (lv_sub hl [1, 2, 0] rfl) hG h
  have n16 : ∀ (k16 : Int32 → Int32 → Int32 → Int32 → Int32 → (Nat → Int32) → (Nat → Int32) → (Nat → Int32) → (Nat → Int32) → Option (Int32 × Int32 × Int32 × Int32 × (Nat → Int32) × (Nat → Int32) × (Nat → Int32) × (Nat → Int32))) (hk16 : ∀ (x1 : Int32) (x2 : Int32) (v_areKindsFound : Int32) (v_isMeasured : Int32) (v_posts : Int32) (v_lineP : Nat → Int32) (v_lineQ : Nat → Int32) (v_newRoad : Nat → Int32) (v_road : Nat → Int32) (H : Heap) (locs : List Loc) (ls : Array Slot), lv_has ls 5 [(0, .ref (g.2.1 50)), (1, .int x1), (2, .int x2)] → GW g s (mkS σ [(3238, v_areKindsFound), (3212, v_isMeasured), (3203, v_posts)] [] [(72, v_lineP), (73, v_lineQ), (70, v_newRoad), (54, v_road)] []) H locs → k16 x1 x2 v_areKindsFound v_isMeasured v_posts v_lineP v_lineQ v_newRoad v_road = some (r, w_areKindsFound, w_isMeasured, w_posts, w_lineP, w_lineQ, w_newRoad, w_road) → Wg p l e 2 45 s m args below meth c g (some (.int r)) (mkS σ [(3238, w_areKindsFound), (3212, w_isMeasured), (3203, w_posts)] [] [(72, w_lineP), (73, w_lineQ), (70, w_newRoad), (54, w_road)] []) H locs (F0 m 16 ls [])) (x1 : Int32) (x2 : Int32) (v_areKindsFound : Int32) (v_isMeasured : Int32) (v_posts : Int32) (v_lineP : Nat → Int32) (v_lineQ : Nat → Int32) (v_newRoad : Nat → Int32) (v_road : Nat → Int32) (H : Heap) (locs : List Loc) (ls : Array Slot), lv_has ls 5 [(0, .ref (g.2.1 50)), (1, .int x1), (2, .int x2)] → GW g s (mkS σ [(3238, v_areKindsFound), (3212, v_isMeasured), (3203, v_posts)] [] [(72, v_lineP), (73, v_lineQ), (70, v_newRoad), (54, v_road)] []) H locs → M_lines_n16 k16 x1 x2 v_areKindsFound v_isMeasured v_posts v_lineP v_lineQ v_newRoad v_road = some (r, w_areKindsFound, w_isMeasured, w_posts, w_lineP, w_lineQ, w_newRoad, w_road) → Wg p l e 2 45 s m args below meth c g (some (.int r)) (mkS σ [(3238, w_areKindsFound), (3212, w_isMeasured), (3203, w_posts)] [] [(72, w_lineP), (73, w_lineQ), (70, w_newRoad), (54, w_road)] []) H locs (F0 m 16 ls []) := by
    intro k16 hk16 x1 x2 v_areKindsFound v_isMeasured v_posts v_lineP v_lineQ v_newRoad v_road H locs ls hl hG h
    unfold M_lines_n16 at h
    refine lv_iload_n hx hb dX9_lines_16 rfl (lv_at hl 2 rfl) ?_
    refine lv_aload_n hx hb dX9_lines_17 rfl (lv_at hl 0 rfl) ?_
    refine gx_get (v := .int v_posts) (C := RX9) (T := TX9) (N := 44) hx hb hts hinX9 hown hK hG (ga_50 g _) rfl 3 (by decide) hw0 rfl rfl dX9_lines_18 ?_
    refine lv_icmp_ge (tgt := 79) hx hb dX9_lines_21 (by decide) (fun c21 => ?_) (fun c21 => ?_)
    · have h := ite_t c21 h
      exact n79 x1 v_areKindsFound v_isMeasured v_posts v_lineP v_lineQ v_newRoad v_road _ _ _ (lv_sub hl [0, 1] rfl) hG h
    · have h := ite_f c21 h
      refine lv_iload_n hx hb dX9_lines_24 rfl (lv_at hl 2 rfl) ?_
      refine lv_iconst (v := (1 : Int32)) hx hb dX9_lines_25 (by decide) ?_
      refine lv_iadd hx hb dX9_lines_26 ?_
      refine lv_istore_n (lv' := [(3, .int (x2 + (1 : Int32))), (0, .ref (g.2.1 50)), (1, .int x1), (2, .int x2)]) hx hb dX9_lines_27 rfl hl (Nat.le_of_ble_eq_true rfl) rfl (fun ls hl => ?_)
      exact l28 k16 hk16 FUEL x1 x2 (x2 + (1 : Int32)) v_areKindsFound v_isMeasured v_posts v_lineP v_lineQ v_newRoad v_road _ _ _ (lv_sub hl [1, 2, 3, 0] rfl) hG h
  have l16 : ∀  (F : Nat) (x1 : Int32) (x2 : Int32) (v_areKindsFound : Int32) (v_isMeasured : Int32) (v_posts : Int32) (v_lineP : Nat → Int32) (v_lineQ : Nat → Int32) (v_newRoad : Nat → Int32) (v_road : Nat → Int32) (H : Heap) (locs : List Loc) (ls : Array Slot), lv_has ls 5 [(0, .ref (g.2.1 50)), (1, .int x1), (2, .int x2)] → GW g s (mkS σ [(3238, v_areKindsFound), (3212, v_isMeasured), (3203, v_posts)] [] [(72, v_lineP), (73, v_lineQ), (70, v_newRoad), (54, v_road)] []) H locs → M_lines_l16 F x1 x2 v_areKindsFound v_isMeasured v_posts v_lineP v_lineQ v_newRoad v_road = some (r, w_areKindsFound, w_isMeasured, w_posts, w_lineP, w_lineQ, w_newRoad, w_road) → Wg p l e 2 45 s m args below meth c g (some (.int r)) (mkS σ [(3238, w_areKindsFound), (3212, w_isMeasured), (3203, w_posts)] [] [(72, w_lineP), (73, w_lineQ), (70, w_newRoad), (54, w_road)] []) H locs (F0 m 16 ls []) := by
    intro F
    induction F with
    | zero => intro x1 x2 v_areKindsFound v_isMeasured v_posts v_lineP v_lineQ v_newRoad v_road H locs ls hl hG h; exact no_some h
    | succ F ih => intro x1 x2 v_areKindsFound v_isMeasured v_posts v_lineP v_lineQ v_newRoad v_road H locs ls hl hG h; exact n16 (fun x1 x2 v_areKindsFound v_isMeasured v_posts v_lineP v_lineQ v_newRoad v_road => M_lines_l16 F x1 x2 v_areKindsFound v_isMeasured v_posts v_lineP v_lineQ v_newRoad v_road) ih x1 x2 v_areKindsFound v_isMeasured v_posts v_lineP v_lineQ v_newRoad v_road H locs ls hl hG h
  refine lv_aload_n hx hb dX9_lines_0 rfl (lv_at hl 0 rfl) ?_
  obtain ⟨z22, hc23, h⟩ := bnd_some h
  refine gx_cV (σ' := (mkS σ [(3238, (σ.1 3238)), (3212, (σ.1 3212)), (3203, (σ.1 3203))] [] [(72, (σ.2.2.1 72)), (73, (σ.2.2.1 73)), (70, (σ.2.2.1 70)), (54, (σ.2.2.1 54))] [])) (r := (some (.int z22))) (rest := []) (As := []) hS9 (c_M_roads l g (mkS σ [(3238, (σ.1 3238)), (3212, (σ.1 3212)), (3203, (σ.1 3203))] [] [(72, (σ.2.2.1 72)), (73, (σ.2.2.1 73)), (70, (σ.2.2.1 70)), (54, (σ.2.2.1 54))] []) z22 hc23) rfl (cwV 0 hts gX9_lines_X9_roads rfl rfl rfl (by decide +kernel) ⟨Nat.le_of_ble_eq_true rfl, Nat.le_of_ble_eq_true rfl⟩) hK hG (ga_50 g _) rfl rfl rfl hl.1 rfl (Nat.le_of_ble_eq_true rfl) dX9_lines_1 (fun H locs hG => ?_)
  refine W.eq (g2 := F0 m 4 ls [.int z22]) rfl ?_
  refine lv_bipush (v := (32 : Int32)) hx hb dX9_lines_4 (by decide) ?_
  refine lv_icmp_le (tgt := 12) hx hb dX9_lines_6 (by decide) (fun c24 => ?_) (fun c24 => ?_)
  · have h := ite_t c24 h
    refine lv_iconst (v := (0 : Int32)) hx hb dX9_lines_12 (by decide) ?_
    refine lv_istore_n (lv' := [(1, .int (0 : Int32)), (0, .ref (g.2.1 50))]) hx hb dX9_lines_13 rfl hl (Nat.le_of_ble_eq_true rfl) rfl (fun ls hl => ?_)
    refine lv_iconst (v := (0 : Int32)) hx hb dX9_lines_14 (by decide) ?_
    refine lv_istore_n (lv' := [(2, .int (0 : Int32)), (1, .int (0 : Int32)), (0, .ref (g.2.1 50))]) hx hb dX9_lines_15 rfl hl (Nat.le_of_ble_eq_true rfl) rfl (fun ls hl => ?_)
    exact l16 FUEL (0 : Int32) (0 : Int32) (σ.1 3238) (σ.1 3212) (σ.1 3203) (σ.2.2.1 72) (σ.2.2.1 73) (σ.2.2.1 70) (σ.2.2.1 54) _ _ _ (lv_sub hl [2, 1, 0] rfl) hG h
  · have h := ite_f c24 h
    refine lv_bipush (v := (-2 : Int32)) hx hb dX9_lines_9 (by decide) ?_
    cases h
    exact gx_iret hx hb hr hlocks hG dX9_lines_11

set_option maxHeartbeats 4000000 in
set_option maxRecDepth 100000 in
theorem c_M_load (l : Launch) (g : GC) (σ : St) (x1 : Int32) (x2 : Int32) (x3 : Int32) (r : Int32) (w_areKindsFound : Int32) (w_isMeasured : Int32) (w_road : Nat → Int32) (h : M_load x1 x2 x3 (σ.1 3238) (σ.1 3212) (σ.1 3203) (σ.2.2.1 53) (σ.2.2.1 54) (σ.2.2.1 52) = some (r, w_areKindsFound, w_isMeasured, w_road)) : Cn l g yX9_load wsX9_load 2 46 [.ref (g.2.1 50), .int x1, .int x2, .int x3] σ (some (.int r)) (mkS σ [(3238, w_areKindsFound), (3212, w_isMeasured)] [] [(54, w_road)] []) := by
  unfold Cn
  refine Met.ofW (cc := cX9_load) (maxL := 7) (ret := (some .int)) (by decide) rfl ?_
  intro p e s m args below meth c s₁ B hml hv
  obtain ⟨hargs, hP0, hK⟩ := hv
  have hx := B.exec
  have hb := B.bytes
  have hr := B.returns
  have hts := atoms_spec (ws := wsX9_load) B.pre
  have hown : s.vm.findClass RX9 = some m.cls := findClass_of_methodNamed B.named
  have hlocks := B.notSynchronized
  have hS9 : CallFix p m c cX9_load 7 s args wsX9_load RX9 := ⟨hx, hb, hml, hown, hts⟩
  have hinX9 : ∀ w ∈ wsX90, w ∈ wsX9_load := fun w h => List.mem_cons_of_mem _ (List.mem_append_right _ (h))
  have hw0 := hts (.fieldLink RX9 16 "LikeNetsModel" "cellOf" "[I") (List.mem_of_getElem? (i := 3) rfl)
  have hw1 := hts (.fieldLink RX9 13 "LikeNetsModel" "sheetSize" "[I") (List.mem_of_getElem? (i := 1) rfl)
  have hw2 := hts (.constantLong RX9 123 (2)) (List.mem_of_getElem? (i := 2) rfl)
  have hf9 : entryFrame m args 7 = _ := (congrArg (fun a => entryFrame m a 7) hargs).trans (lg_entry_eq m [.ref (g.2.1 50), .int x1, .int x2, .int x3] 7)
  show Wg p l e 2 46 s m args below meth c g (some (.int r)) (mkS σ [(3238, w_areKindsFound), (3212, w_isMeasured)] [] [(54, w_road)] []) s.heap [] (entryFrame m args 7)
  rw [hf9]
  have hl := lv_entry ([.ref (g.2.1 50), .int x1, .int x2, .int x3]) (n := 7) (Nat.le_of_ble_eq_true rfl)
  generalize (lg_sl ([.ref (g.2.1 50), .int x1, .int x2, .int x3]) ++ List.replicate (7 - (lg_sl ([.ref (g.2.1 50), .int x1, .int x2, .int x3])).length) Slot.unset).toArray = ls at hl ⊢
  have hl : lv_has ls 7 [(0, .ref (g.2.1 50)), (1, .int x1), (2, .int x2), (3, .int x3)] := hl
  have hG : GW g s σ s.heap [] := ⟨hP0, va_S.rf⟩
  have hG : GW g s (mkS σ [(3238, (σ.1 3238)), (3212, (σ.1 3212))] [] [(54, (σ.2.2.1 54))] []) s.heap [] := GW_self [3238, 3212] [] [54] [] hG
  unfold M_load at h
  have n49 : ∀ (v_areKindsFound : Int32) (v_isMeasured : Int32) (v_road : Nat → Int32) (H : Heap) (locs : List Loc) (ls : Array Slot), lv_has ls 7 [] → GW g s (mkS σ [(3238, v_areKindsFound), (3212, v_isMeasured)] [] [(54, v_road)] []) H locs → M_load_n49 v_areKindsFound v_isMeasured v_road = some (r, w_areKindsFound, w_isMeasured, w_road) → Wg p l e 2 46 s m args below meth c g (some (.int r)) (mkS σ [(3238, w_areKindsFound), (3212, w_isMeasured)] [] [(54, w_road)] []) H locs (F0 m 49 ls []) := by
    intro v_areKindsFound v_isMeasured v_road H locs ls hl hG h
    unfold M_load_n49 at h
    refine lv_iconst (v := (-1 : Int32)) hx hb dX9_load_49 (by decide) ?_
    cases h
    exact gx_iret hx hb hr hlocks hG dX9_load_50
  have n123 : ∀ (v_areKindsFound : Int32) (v_isMeasured : Int32) (v_road : Nat → Int32) (H : Heap) (locs : List Loc) (ls : Array Slot), lv_has ls 7 [] → GW g s (mkS σ [(3238, v_areKindsFound), (3212, v_isMeasured)] [] [(54, v_road)] []) H locs → M_load_n123 v_areKindsFound v_isMeasured v_road = some (r, w_areKindsFound, w_isMeasured, w_road) → Wg p l e 2 46 s m args below meth c g (some (.int r)) (mkS σ [(3238, w_areKindsFound), (3212, w_isMeasured)] [] [(54, w_road)] []) H locs (F0 m 123 ls []) := by
    intro v_areKindsFound v_isMeasured v_road H locs ls hl hG h
    unfold M_load_n123 at h
    refine lv_iconst (v := (-1 : Int32)) hx hb dX9_load_123 (by decide) ?_
    cases h
    exact gx_iret hx hb hr hlocks hG dX9_load_124
  have n192 : ∀ (k137 : Int32 → Int32 → Int32 → Int32 → Int32 → Int32 → Int32 → (Nat → Int32) → Option (Int32 × Int32 × Int32 × (Nat → Int32))) (hk137 : ∀ (x1 : Int32) (x2 : Int32) (x3 : Int32) (x4 : Int32) (x5 : Int32) (v_areKindsFound : Int32) (v_isMeasured : Int32) (v_road : Nat → Int32) (H : Heap) (locs : List Loc) (ls : Array Slot), lv_has ls 7 [(0, .ref (g.2.1 50)), (1, .int x1), (2, .int x2), (3, .int x3), (4, .int x4), (5, .int x5)] → GW g s (mkS σ [(3238, v_areKindsFound), (3212, v_isMeasured)] [] [(54, v_road)] []) H locs → k137 x1 x2 x3 x4 x5 v_areKindsFound v_isMeasured v_road = some (r, w_areKindsFound, w_isMeasured, w_road) → Wg p l e 2 46 s m args below meth c g (some (.int r)) (mkS σ [(3238, w_areKindsFound), (3212, w_isMeasured)] [] [(54, w_road)] []) H locs (F0 m 137 ls [])) (x1 : Int32) (x2 : Int32) (x3 : Int32) (x5 : Int32) (t0 : Int32) (t1 : Int32) (v_areKindsFound : Int32) (v_isMeasured : Int32) (v_road : Nat → Int32) (H : Heap) (locs : List Loc) (ls : Array Slot), lv_has ls 7 [(0, .ref (g.2.1 50)), (1, .int x1), (2, .int x2), (3, .int x3), (5, .int x5)] → GW g s (mkS σ [(3238, v_areKindsFound), (3212, v_isMeasured)] [] [(54, v_road)] []) H locs → M_load_n192 k137 x1 x2 x3 x5 t0 t1 v_areKindsFound v_isMeasured v_road = some (r, w_areKindsFound, w_isMeasured, w_road) → Wg p l e 2 46 s m args below meth c g (some (.int r)) (mkS σ [(3238, w_areKindsFound), (3212, w_isMeasured)] [] [(54, w_road)] []) H locs (F0 m 192 ls [.int t1, .int t0]) := by
    intro k137 hk137 x1 x2 x3 x5 t0 t1 v_areKindsFound v_isMeasured v_road H locs ls hl hG h
    unfold M_load_n192 at h
    refine lv_iadd hx hb dX9_load_192 ?_
    refine lv_istore (lv' := [(4, .int (t0 + t1)), (0, .ref (g.2.1 50)), (1, .int x1), (2, .int x2), (3, .int x3), (5, .int x5)]) hx hb dX9_load_193 hl (Nat.le_of_ble_eq_true rfl) rfl (fun ls hl => ?_)
    refine lv_iinc (v := (x5 + (1 : Int32))) (lv' := [(5, .int (x5 + (1 : Int32))), (4, .int (t0 + t1)), (0, .ref (g.2.1 50)), (1, .int x1), (2, .int x2), (3, .int x3)]) hx hb dX9_load_195 hl (k := 5) rfl (congrArg (fun z => x5 + z) (by decide)) (Nat.le_of_ble_eq_true rfl) rfl (fun ls hl => ?_)
    refine lv_goto (tgt := 137) hx hb dX9_load_198 (by decide) ?_
    exact hk137 x1 x2 x3 (t0 + t1) (x5 + (1 : Int32)) v_areKindsFound v_isMeasured v_road _ _ _ (lv_sub hl [2, 3, 4, 5, 1, 0] rfl) hG h
  have n201 : ∀ (x4 : Int32) (v_areKindsFound : Int32) (v_isMeasured : Int32) (v_road : Nat → Int32) (H : Heap) (locs : List Loc) (ls : Array Slot), lv_has ls 7 [(4, .int x4)] → GW g s (mkS σ [(3238, v_areKindsFound), (3212, v_isMeasured)] [] [(54, v_road)] []) H locs → M_load_n201 x4 v_areKindsFound v_isMeasured v_road = some (r, w_areKindsFound, w_isMeasured, w_road) → Wg p l e 2 46 s m args below meth c g (some (.int r)) (mkS σ [(3238, w_areKindsFound), (3212, w_isMeasured)] [] [(54, w_road)] []) H locs (F0 m 201 ls []) := by
    intro x4 v_areKindsFound v_isMeasured v_road H locs ls hl hG h
    unfold M_load_n201 at h
    refine lv_iload hx hb dX9_load_201 (lv_at hl 0 rfl) ?_
    cases h
    exact gx_iret hx hb hr hlocks hG dX9_load_203
  have n137 : ∀ (k137 : Int32 → Int32 → Int32 → Int32 → Int32 → Int32 → Int32 → (Nat → Int32) → Option (Int32 × Int32 × Int32 × (Nat → Int32))) (hk137 : ∀ (x1 : Int32) (x2 : Int32) (x3 : Int32) (x4 : Int32) (x5 : Int32) (v_areKindsFound : Int32) (v_isMeasured : Int32) (v_road : Nat → Int32) (H : Heap) (locs : List Loc) (ls : Array Slot), lv_has ls 7 [(0, .ref (g.2.1 50)), (1, .int x1), (2, .int x2), (3, .int x3), (4, .int x4), (5, .int x5)] → GW g s (mkS σ [(3238, v_areKindsFound), (3212, v_isMeasured)] [] [(54, v_road)] []) H locs → k137 x1 x2 x3 x4 x5 v_areKindsFound v_isMeasured v_road = some (r, w_areKindsFound, w_isMeasured, w_road) → Wg p l e 2 46 s m args below meth c g (some (.int r)) (mkS σ [(3238, w_areKindsFound), (3212, w_isMeasured)] [] [(54, w_road)] []) H locs (F0 m 137 ls [])) (x1 : Int32) (x2 : Int32) (x3 : Int32) (x4 : Int32) (x5 : Int32) (v_areKindsFound : Int32) (v_isMeasured : Int32) (v_road : Nat → Int32) (H : Heap) (locs : List Loc) (ls : Array Slot), lv_has ls 7 [(0, .ref (g.2.1 50)), (1, .int x1), (2, .int x2), (3, .int x3), (4, .int x4), (5, .int x5)] → GW g s (mkS σ [(3238, v_areKindsFound), (3212, v_isMeasured)] [] [(54, v_road)] []) H locs → M_load_n137 k137 (σ.2.2.1 53) x1 x2 x3 x4 x5 v_areKindsFound v_isMeasured v_road = some (r, w_areKindsFound, w_isMeasured, w_road) → Wg p l e 2 46 s m args below meth c g (some (.int r)) (mkS σ [(3238, w_areKindsFound), (3212, w_isMeasured)] [] [(54, w_road)] []) H locs (F0 m 137 ls []) := by
    intro k137 hk137 x1 x2 x3 x4 x5 v_areKindsFound v_isMeasured v_road H locs ls hl hG h
    unfold M_load_n137 at h
    refine lv_iload hx hb dX9_load_137 (lv_at hl 5 rfl) ?_
    refine lv_iload_n hx hb dX9_load_139 rfl (lv_at hl 3 rfl) ?_
    refine lv_icmp_ge (tgt := 201) hx hb dX9_load_140 (by decide) (fun c1 => ?_) (fun c1 => ?_)
    · have h := ite_t c1 h
      exact n201 x4 v_areKindsFound v_isMeasured v_road _ _ _ (lv_sub hl [4] rfl) hG h
    · have h := ite_f c1 h
      refine lv_iload hx hb dX9_load_143 (lv_at hl 4 rfl) ?_
      refine lv_aload_n hx hb dX9_load_145 rfl (lv_at hl 0 rfl) ?_
      refine lv_aload_n hx hb dX9_load_146 rfl (lv_at hl 0 rfl) ?_
      refine gx_get (v := .ref (g.2.1 53)) (C := RX9) (T := TX9) (N := 44) hx hb hts hinX9 hown hK hG (ga_50 g _) rfl 2 (by decide) hw0 rfl rfl dX9_load_147 ?_
      refine lv_bipush (v := (60 : Int32)) hx hb dX9_load_150 (by decide) ?_
      refine lv_iload_n hx hb dX9_load_152 rfl (lv_at hl 1 rfl) ?_
      refine lv_imul hx hb dX9_load_153 ?_
      refine lv_iload_n hx hb dX9_load_154 rfl (lv_at hl 2 rfl) ?_
      refine lv_iadd hx hb dX9_load_155 ?_
      refine lv_iconst (v := (2 : Int32)) hx hb dX9_load_156 (by decide) ?_
      refine lv_iload hx hb dX9_load_157 (lv_at hl 5 rfl) ?_
      refine lv_imul hx hb dX9_load_159 ?_
      refine lv_iadd hx hb dX9_load_160 ?_
      obtain ⟨hg2, h⟩ := gd_some h
      refine gx_iald (f := (σ.2.2.1 53)) hx hb hK hG (ga_53 g _) hg2 dX9_load_161 ?_
      refine lv_aload_n hx hb dX9_load_162 rfl (lv_at hl 0 rfl) ?_
      refine gx_get (v := .ref (g.2.1 53)) (C := RX9) (T := TX9) (N := 44) hx hb hts hinX9 hown hK hG (ga_50 g _) rfl 2 (by decide) hw0 rfl rfl dX9_load_163 ?_
      refine lv_bipush (v := (60 : Int32)) hx hb dX9_load_166 (by decide) ?_
      refine lv_iload_n hx hb dX9_load_168 rfl (lv_at hl 1 rfl) ?_
      refine lv_imul hx hb dX9_load_169 ?_
      refine lv_iload_n hx hb dX9_load_170 rfl (lv_at hl 2 rfl) ?_
      refine lv_iadd hx hb dX9_load_171 ?_
      refine lv_iconst (v := (2 : Int32)) hx hb dX9_load_172 (by decide) ?_
      refine lv_iload hx hb dX9_load_173 (lv_at hl 5 rfl) ?_
      refine lv_imul hx hb dX9_load_175 ?_
      refine lv_iadd hx hb dX9_load_176 ?_
      refine lv_iconst (v := (1 : Int32)) hx hb dX9_load_177 (by decide) ?_
      refine lv_iadd hx hb dX9_load_178 ?_
      obtain ⟨hg3, h⟩ := gd_some h
      refine gx_iald (f := (σ.2.2.1 53)) hx hb hK hG (ga_53 g _) hg3 dX9_load_179 ?_
      refine lv_iconst (v := (1 : Int32)) hx hb dX9_load_180 (by decide) ?_
      obtain ⟨z4, hc5, h⟩ := bnd_some h
      refine gx_cV (σ' := (mkS σ [(3238, z4.2.1), (3212, z4.2.2.1)] [] [(54, z4.2.2.2)] [])) (r := (some (.int z4.1))) (rest := [.int x4]) (As := [.int ((σ.2.2.1 53) (((((60 : Int32) * x1) + x2) + ((2 : Int32) * x5)).toNatClampNeg)), .int ((σ.2.2.1 53) ((((((60 : Int32) * x1) + x2) + ((2 : Int32) * x5)) + (1 : Int32)).toNatClampNeg)), .int (1 : Int32)]) hS9 (c_M_lay l g (mkS σ [(3238, v_areKindsFound), (3212, v_isMeasured)] [] [(54, v_road)] []) ((σ.2.2.1 53) (((((60 : Int32) * x1) + x2) + ((2 : Int32) * x5)).toNatClampNeg)) ((σ.2.2.1 53) ((((((60 : Int32) * x1) + x2) + ((2 : Int32) * x5)) + (1 : Int32)).toNatClampNeg)) (1 : Int32) z4.1 z4.2.1 z4.2.2.1 z4.2.2.2 hc5) (mk_mk rfl rfl rfl rfl) (cwV 3 hts gX9_load_X9_lay rfl rfl rfl (by decide +kernel) ⟨Nat.le_of_ble_eq_true rfl, Nat.le_of_ble_eq_true rfl⟩) hK hG (ga_50 g _) rfl rfl rfl hl.1 rfl (Nat.le_of_ble_eq_true rfl) dX9_load_181 (fun H locs hG => ?_)
      refine W.eq (g2 := F0 m 184 ls [.int z4.1, .int x4]) rfl ?_
      refine lv_if_eq (tgt := 191) hx hb dX9_load_184 (by decide) (fun c6 => ?_) (fun c6 => ?_)
      · have h := ite_t c6 h
        refine lv_iconst (v := (0 : Int32)) hx hb dX9_load_191 (by decide) ?_
        exact n192 k137 hk137 x1 x2 x3 x5 x4 (0 : Int32) z4.2.1 z4.2.2.1 z4.2.2.2 _ _ _ (lv_sub hl [0, 1, 2, 3, 5] rfl) hG h
      · have h := ite_f c6 h
        refine lv_iconst (v := (1 : Int32)) hx hb dX9_load_187 (by decide) ?_
        refine lv_goto (tgt := 192) hx hb dX9_load_188 (by decide) ?_
        exact n192 k137 hk137 x1 x2 x3 x5 x4 (1 : Int32) z4.2.1 z4.2.2.1 z4.2.2.2 _ _ _ (lv_sub hl [0, 1, 2, 3, 5] rfl) hG h
  have l137 : ∀  (F : Nat) (x1 : Int32) (x2 : Int32) (x3 : Int32) (x4 : Int32) (x5 : Int32) (v_areKindsFound : Int32) (v_isMeasured : Int32) (v_road : Nat → Int32) (H : Heap) (locs : List Loc) (ls : Array Slot), lv_has ls 7 [(0, .ref (g.2.1 50)), (1, .int x1), (2, .int x2), (3, .int x3), (4, .int x4), (5, .int x5)] → GW g s (mkS σ [(3238, v_areKindsFound), (3212, v_isMeasured)] [] [(54, v_road)] []) H locs → M_load_l137 (σ.2.2.1 53) F x1 x2 x3 x4 x5 v_areKindsFound v_isMeasured v_road = some (r, w_areKindsFound, w_isMeasured, w_road) → Wg p l e 2 46 s m args below meth c g (some (.int r)) (mkS σ [(3238, w_areKindsFound), (3212, w_isMeasured)] [] [(54, w_road)] []) H locs (F0 m 137 ls []) := by
    intro F
    induction F with
    | zero => intro x1 x2 x3 x4 x5 v_areKindsFound v_isMeasured v_road H locs ls hl hG h; exact no_some h
    | succ F ih => intro x1 x2 x3 x4 x5 v_areKindsFound v_isMeasured v_road H locs ls hl hG h; exact n137 (fun x1 x2 x3 x4 x5 v_areKindsFound v_isMeasured v_road => M_load_l137 (σ.2.2.1 53) F x1 x2 x3 x4 x5 v_areKindsFound v_isMeasured v_road) ih x1 x2 x3 x4 x5 v_areKindsFound v_isMeasured v_road H locs ls hl hG h
  have n131 : ∀ (x1 : Int32) (x2 : Int32) (x3 : Int32) (v_areKindsFound : Int32) (v_isMeasured : Int32) (v_road : Nat → Int32) (H : Heap) (locs : List Loc) (ls : Array Slot), lv_has ls 7 [(0, .ref (g.2.1 50)), (1, .int x1), (2, .int x2), (3, .int x3)] → GW g s (mkS σ [(3238, v_areKindsFound), (3212, v_isMeasured)] [] [(54, v_road)] []) H locs → M_load_n131 (σ.2.2.1 53) x1 x2 x3 v_areKindsFound v_isMeasured v_road = some (r, w_areKindsFound, w_isMeasured, w_road) → Wg p l e 2 46 s m args below meth c g (some (.int r)) (mkS σ [(3238, w_areKindsFound), (3212, w_isMeasured)] [] [(54, w_road)] []) H locs (F0 m 131 ls []) := by
    intro x1 x2 x3 v_areKindsFound v_isMeasured v_road H locs ls hl hG h
    unfold M_load_n131 at h
    refine lv_iconst (v := (0 : Int32)) hx hb dX9_load_131 (by decide) ?_
    refine lv_istore (lv' := [(4, .int (0 : Int32)), (0, .ref (g.2.1 50)), (1, .int x1), (2, .int x2), (3, .int x3)]) hx hb dX9_load_132 hl (Nat.le_of_ble_eq_true rfl) rfl (fun ls hl => ?_)
    refine lv_iconst (v := (0 : Int32)) hx hb dX9_load_134 (by decide) ?_
    refine lv_istore (lv' := [(5, .int (0 : Int32)), (4, .int (0 : Int32)), (0, .ref (g.2.1 50)), (1, .int x1), (2, .int x2), (3, .int x3)]) hx hb dX9_load_135 hl (Nat.le_of_ble_eq_true rfl) rfl (fun ls hl => ?_)
    exact l137 FUEL x1 x2 x3 (0 : Int32) (0 : Int32) v_areKindsFound v_isMeasured v_road _ _ _ (lv_sub hl [2, 3, 4, 5, 1, 0] rfl) hG h
  have n54 : ∀ (k54 : Int32 → Int32 → Int32 → Int32 → Int32 → Int32 → (Nat → Int32) → Option (Int32 × Int32 × Int32 × (Nat → Int32))) (hk54 : ∀ (x1 : Int32) (x2 : Int32) (x3 : Int32) (x4 : Int32) (v_areKindsFound : Int32) (v_isMeasured : Int32) (v_road : Nat → Int32) (H : Heap) (locs : List Loc) (ls : Array Slot), lv_has ls 7 [(0, .ref (g.2.1 50)), (1, .int x1), (2, .int x2), (3, .int x3), (4, .int x4)] → GW g s (mkS σ [(3238, v_areKindsFound), (3212, v_isMeasured)] [] [(54, v_road)] []) H locs → k54 x1 x2 x3 x4 v_areKindsFound v_isMeasured v_road = some (r, w_areKindsFound, w_isMeasured, w_road) → Wg p l e 2 46 s m args below meth c g (some (.int r)) (mkS σ [(3238, w_areKindsFound), (3212, w_isMeasured)] [] [(54, w_road)] []) H locs (F0 m 54 ls [])) (x1 : Int32) (x2 : Int32) (x3 : Int32) (x4 : Int32) (v_areKindsFound : Int32) (v_isMeasured : Int32) (v_road : Nat → Int32) (H : Heap) (locs : List Loc) (ls : Array Slot), lv_has ls 7 [(0, .ref (g.2.1 50)), (1, .int x1), (2, .int x2), (3, .int x3), (4, .int x4)] → GW g s (mkS σ [(3238, v_areKindsFound), (3212, v_isMeasured)] [] [(54, v_road)] []) H locs → M_load_n54 k54 (σ.1 3203) (σ.2.2.1 53) x1 x2 x3 x4 v_areKindsFound v_isMeasured v_road = some (r, w_areKindsFound, w_isMeasured, w_road) → Wg p l e 2 46 s m args below meth c g (some (.int r)) (mkS σ [(3238, w_areKindsFound), (3212, w_isMeasured)] [] [(54, w_road)] []) H locs (F0 m 54 ls []) := by
    intro k54 hk54 x1 x2 x3 x4 v_areKindsFound v_isMeasured v_road H locs ls hl hG h
    unfold M_load_n54 at h
    refine lv_iload hx hb dX9_load_54 (lv_at hl 4 rfl) ?_
    refine lv_iload_n hx hb dX9_load_56 rfl (lv_at hl 3 rfl) ?_
    refine lv_icmp_ge (tgt := 131) hx hb dX9_load_57 (by decide) (fun c7 => ?_) (fun c7 => ?_)
    · have h := ite_t c7 h
      exact n131 x1 x2 x3 v_areKindsFound v_isMeasured v_road _ _ _ (lv_sub hl [0, 1, 2, 3] rfl) hG h
    · have h := ite_f c7 h
      refine lv_aload_n hx hb dX9_load_60 rfl (lv_at hl 0 rfl) ?_
      refine gx_get (v := .ref (g.2.1 53)) (C := RX9) (T := TX9) (N := 44) hx hb hts hinX9 hown hK hG (ga_50 g _) rfl 2 (by decide) hw0 rfl rfl dX9_load_61 ?_
      refine lv_bipush (v := (60 : Int32)) hx hb dX9_load_64 (by decide) ?_
      refine lv_iload_n hx hb dX9_load_66 rfl (lv_at hl 1 rfl) ?_
      refine lv_imul hx hb dX9_load_67 ?_
      refine lv_iload_n hx hb dX9_load_68 rfl (lv_at hl 2 rfl) ?_
      refine lv_iadd hx hb dX9_load_69 ?_
      refine lv_iconst (v := (2 : Int32)) hx hb dX9_load_70 (by decide) ?_
      refine lv_iload hx hb dX9_load_71 (lv_at hl 4 rfl) ?_
      refine lv_imul hx hb dX9_load_73 ?_
      refine lv_iadd hx hb dX9_load_74 ?_
      obtain ⟨hg8, h⟩ := gd_some h
      refine gx_iald (f := (σ.2.2.1 53)) hx hb hK hG (ga_53 g _) hg8 dX9_load_75 ?_
      refine lv_topi (fun y9 ey9 => ?_)
      have h := lt_at h ey9
      refine lv_istore (lv' := [(5, .int y9), (0, .ref (g.2.1 50)), (1, .int x1), (2, .int x2), (3, .int x3), (4, .int x4)]) hx hb dX9_load_76 hl (Nat.le_of_ble_eq_true rfl) rfl (fun ls hl => ?_)
      refine lv_aload_n hx hb dX9_load_78 rfl (lv_at hl 1 rfl) ?_
      refine gx_get (v := .ref (g.2.1 53)) (C := RX9) (T := TX9) (N := 44) hx hb hts hinX9 hown hK hG (ga_50 g _) rfl 2 (by decide) hw0 rfl rfl dX9_load_79 ?_
      refine lv_bipush (v := (60 : Int32)) hx hb dX9_load_82 (by decide) ?_
      refine lv_iload_n hx hb dX9_load_84 rfl (lv_at hl 2 rfl) ?_
      refine lv_imul hx hb dX9_load_85 ?_
      refine lv_iload_n hx hb dX9_load_86 rfl (lv_at hl 3 rfl) ?_
      refine lv_iadd hx hb dX9_load_87 ?_
      refine lv_iconst (v := (2 : Int32)) hx hb dX9_load_88 (by decide) ?_
      refine lv_iload hx hb dX9_load_89 (lv_at hl 5 rfl) ?_
      refine lv_imul hx hb dX9_load_91 ?_
      refine lv_iadd hx hb dX9_load_92 ?_
      refine lv_iconst (v := (1 : Int32)) hx hb dX9_load_93 (by decide) ?_
      refine lv_iadd hx hb dX9_load_94 ?_
      obtain ⟨hg10, h⟩ := gd_some h
      refine gx_iald (f := (σ.2.2.1 53)) hx hb hK hG (ga_53 g _) hg10 dX9_load_95 ?_
      refine lv_topi (fun y11 ey11 => ?_)
      have h := lt_at h ey11
      refine lv_istore (lv' := [(6, .int y11), (5, .int y9), (0, .ref (g.2.1 50)), (1, .int x1), (2, .int x2), (3, .int x3), (4, .int x4)]) hx hb dX9_load_96 hl (Nat.le_of_ble_eq_true rfl) rfl (fun ls hl => ?_)
      refine lv_aload_n hx hb dX9_load_98 rfl (lv_at hl 2 rfl) ?_
      refine lv_iload hx hb dX9_load_99 (lv_at hl 1 rfl) ?_
      obtain ⟨z12, hc13, h⟩ := bnd_some h
      refine gx_cV (σ' := (mkS σ [(3238, v_areKindsFound), (3212, v_isMeasured)] [] [(54, v_road)] [])) (r := (some (.int z12))) (rest := []) (As := [.int y9]) hS9 (c_M_isPost l g (mkS σ [(3238, v_areKindsFound), (3212, v_isMeasured)] [] [(54, v_road)] []) y9 z12 hc13) rfl (cwV 1 hts gX9_load_X9_isPost rfl rfl rfl (by decide +kernel) ⟨Nat.le_of_ble_eq_true rfl, Nat.le_of_ble_eq_true rfl⟩) hK hG (ga_50 g _) rfl rfl rfl hl.1 rfl (Nat.le_of_ble_eq_true rfl) dX9_load_101 (fun H locs hG => ?_)
      refine W.eq (g2 := F0 m 104 ls [.int z12]) rfl ?_
      refine lv_if_eq (tgt := 123) hx hb dX9_load_104 (by decide) (fun c14 => ?_) (fun c14 => ?_)
      · have h := ite_t c14 h
        exact n123 v_areKindsFound v_isMeasured v_road _ _ _ (lv_sub hl [] rfl) hG h
      · have h := ite_f c14 h
        refine lv_aload_n hx hb dX9_load_107 rfl (lv_at hl 2 rfl) ?_
        refine lv_iload hx hb dX9_load_108 (lv_at hl 0 rfl) ?_
        obtain ⟨z15, hc16, h⟩ := bnd_some h
        refine gx_cV (σ' := (mkS σ [(3238, v_areKindsFound), (3212, v_isMeasured)] [] [(54, v_road)] [])) (r := (some (.int z15))) (rest := []) (As := [.int y11]) hS9 (c_M_isPost l g (mkS σ [(3238, v_areKindsFound), (3212, v_isMeasured)] [] [(54, v_road)] []) y11 z15 hc16) rfl (cwV 1 hts gX9_load_X9_isPost rfl rfl rfl (by decide +kernel) ⟨Nat.le_of_ble_eq_true rfl, Nat.le_of_ble_eq_true rfl⟩) hK hG (ga_50 g _) rfl rfl rfl hl.1 rfl (Nat.le_of_ble_eq_true rfl) dX9_load_110 (fun H locs hG => ?_)
        refine W.eq (g2 := F0 m 113 ls [.int z15]) rfl ?_
        refine lv_if_eq (tgt := 123) hx hb dX9_load_113 (by decide) (fun c17 => ?_) (fun c17 => ?_)
        · have h := ite_t c17 h
          exact n123 v_areKindsFound v_isMeasured v_road _ _ _ (lv_sub hl [] rfl) hG h
        · have h := ite_f c17 h
          refine lv_iload hx hb dX9_load_116 (lv_at hl 1 rfl) ?_
          refine lv_iload hx hb dX9_load_118 (lv_at hl 0 rfl) ?_
          refine lv_icmp_ne (tgt := 125) hx hb dX9_load_120 (by decide) (fun c18 => ?_) (fun c18 => ?_)
          · have h := ite_f c18 h
            refine lv_iinc (v := (x4 + (1 : Int32))) (lv' := [(4, .int (x4 + (1 : Int32))), (6, .int y11), (5, .int y9), (0, .ref (g.2.1 50)), (1, .int x1), (2, .int x2), (3, .int x3)]) hx hb dX9_load_125 hl (k := 6) rfl (congrArg (fun z => x4 + z) (by decide)) (Nat.le_of_ble_eq_true rfl) rfl (fun ls hl => ?_)
            refine lv_goto (tgt := 54) hx hb dX9_load_128 (by decide) ?_
            exact hk54 x1 x2 x3 (x4 + (1 : Int32)) v_areKindsFound v_isMeasured v_road _ _ _ (lv_sub hl [3, 4, 5, 6, 0] rfl) hG h
          · have h := ite_t c18 h
            exact n123 v_areKindsFound v_isMeasured v_road _ _ _ (lv_sub hl [] rfl) hG h
  have l54 : ∀  (F : Nat) (x1 : Int32) (x2 : Int32) (x3 : Int32) (x4 : Int32) (v_areKindsFound : Int32) (v_isMeasured : Int32) (v_road : Nat → Int32) (H : Heap) (locs : List Loc) (ls : Array Slot), lv_has ls 7 [(0, .ref (g.2.1 50)), (1, .int x1), (2, .int x2), (3, .int x3), (4, .int x4)] → GW g s (mkS σ [(3238, v_areKindsFound), (3212, v_isMeasured)] [] [(54, v_road)] []) H locs → M_load_l54 (σ.1 3203) (σ.2.2.1 53) F x1 x2 x3 x4 v_areKindsFound v_isMeasured v_road = some (r, w_areKindsFound, w_isMeasured, w_road) → Wg p l e 2 46 s m args below meth c g (some (.int r)) (mkS σ [(3238, w_areKindsFound), (3212, w_isMeasured)] [] [(54, w_road)] []) H locs (F0 m 54 ls []) := by
    intro F
    induction F with
    | zero => intro x1 x2 x3 x4 v_areKindsFound v_isMeasured v_road H locs ls hl hG h; exact no_some h
    | succ F ih => intro x1 x2 x3 x4 v_areKindsFound v_isMeasured v_road H locs ls hl hG h; exact n54 (fun x1 x2 x3 x4 v_areKindsFound v_isMeasured v_road => M_load_l54 (σ.1 3203) (σ.2.2.1 53) F x1 x2 x3 x4 v_areKindsFound v_isMeasured v_road) ih x1 x2 x3 x4 v_areKindsFound v_isMeasured v_road H locs ls hl hG h
  refine lv_iload_n hx hb dX9_load_0 rfl (lv_at hl 1 rfl) ?_
  obtain ⟨z19, hc20, h⟩ := bnd_some h
  refine gx_cS (σ' := (mkS σ [(3238, (σ.1 3238)), (3212, (σ.1 3212))] [] [(54, (σ.2.2.1 54))] [])) (r := (some (.int z19))) (rest := []) (As := [.int x1]) hS9 (c_M_isSheet l g (mkS σ [(3238, (σ.1 3238)), (3212, (σ.1 3212))] [] [(54, (σ.2.2.1 54))] []) x1 z19 hc20) rfl (va_cwS 1 hts gX9_load_X9_isSheet rfl rfl rfl (by decide +kernel) ⟨Nat.le_of_ble_eq_true rfl, Nat.le_of_ble_eq_true rfl⟩) hK hG rfl hl.1 rfl (Nat.le_of_ble_eq_true rfl) dX9_load_1 (fun H locs hG => ?_)
  refine W.eq (g2 := F0 m 4 ls [.int z19]) rfl ?_
  refine lv_if_ne (tgt := 9) hx hb dX9_load_4 (by decide) (fun c21 => ?_) (fun c21 => ?_)
  · have h := ite_f c21 h
    refine lv_aload_n hx hb dX9_load_9 rfl (lv_at hl 0 rfl) ?_
    refine gx_get (v := .ref (g.2.1 52)) (C := RX9) (T := TX9) (N := 44) hx hb hts hinX9 hown hK hG (ga_50 g _) rfl 1 (by decide) hw1 rfl rfl dX9_load_10 ?_
    refine lv_iload_n hx hb dX9_load_13 rfl (lv_at hl 1 rfl) ?_
    obtain ⟨hg22, h⟩ := gd_some h
    refine gx_iald (f := (σ.2.2.1 52)) hx hb hK hG (ga_52 g _) hg22 dX9_load_14 ?_
    refine lv_if_ge (tgt := 21) hx hb dX9_load_15 (by decide) (fun c23 => ?_) (fun c23 => ?_)
    · have h := ite_t c23 h
      refine lv_iload_n hx hb dX9_load_21 rfl (lv_at hl 2 rfl) ?_
      refine lv_if_lt (tgt := 49) hx hb dX9_load_22 (by decide) (fun c24 => ?_) (fun c24 => ?_)
      · have h := ite_t c24 h
        exact n49 (σ.1 3238) (σ.1 3212) (σ.2.2.1 54) _ _ _ (lv_sub hl [] rfl) hG h
      · have h := ite_f c24 h
        refine lv_iload_n hx hb dX9_load_25 rfl (lv_at hl 3 rfl) ?_
        refine lv_if_lt (tgt := 49) hx hb dX9_load_26 (by decide) (fun c25 => ?_) (fun c25 => ?_)
        · have h := ite_t c25 h
          exact n49 (σ.1 3238) (σ.1 3212) (σ.2.2.1 54) _ _ _ (lv_sub hl [] rfl) hG h
        · have h := ite_f c25 h
          refine lv_iload_n hx hb dX9_load_29 rfl (lv_at hl 2 rfl) ?_
          refine lv_i2l hx hb dX9_load_30 rfl ?_
          refine lv_ldc2 hx hb hown hw2 dX9_load_31 ?_
          refine lv_iload_n hx hb dX9_load_34 rfl (lv_at hl 3 rfl) ?_
          refine lv_i2l hx hb dX9_load_35 rfl ?_
          refine lv_lmul hx hb dX9_load_36 ?_
          refine lv_ladd hx hb dX9_load_37 ?_
          refine lv_aload_n hx hb dX9_load_38 rfl (lv_at hl 0 rfl) ?_
          refine gx_get (v := .ref (g.2.1 52)) (C := RX9) (T := TX9) (N := 44) hx hb hts hinX9 hown hK hG (ga_50 g _) rfl 1 (by decide) hw1 rfl rfl dX9_load_39 ?_
          refine lv_iload_n hx hb dX9_load_42 rfl (lv_at hl 1 rfl) ?_
          refine gx_iald (f := (σ.2.2.1 52)) hx hb hK hG (ga_52 g _) hg22 dX9_load_43 ?_
          refine lv_i2l hx hb dX9_load_44 rfl ?_
          refine W.lcmp hx hb dX9_load_45 ?_
          refine lv_if_le (tgt := 51) hx hb dX9_load_46 (by decide) (fun c26 => ?_) (fun c26 => ?_)
          · have h := ite_t c26 h
            refine lv_iconst (v := (0 : Int32)) hx hb dX9_load_51 (by decide) ?_
            refine lv_istore (lv' := [(4, .int (0 : Int32)), (0, .ref (g.2.1 50)), (1, .int x1), (2, .int x2), (3, .int x3)]) hx hb dX9_load_52 hl (Nat.le_of_ble_eq_true rfl) rfl (fun ls hl => ?_)
            exact l54 FUEL x1 x2 x3 (0 : Int32) (σ.1 3238) (σ.1 3212) (σ.2.2.1 54) _ _ _ (lv_sub hl [1, 2, 3, 4, 0] rfl) hG h
          · have h := ite_f c26 h
            exact n49 (σ.1 3238) (σ.1 3212) (σ.2.2.1 54) _ _ _ (lv_sub hl [] rfl) hG h
    · have h := ite_f c23 h
      refine lv_bipush (v := (-3 : Int32)) hx hb dX9_load_18 (by decide) ?_
      cases h
      exact gx_iret hx hb hr hlocks hG dX9_load_20
  · have h := ite_t c21 h
    refine lv_iconst (v := (-1 : Int32)) hx hb dX9_load_7 (by decide) ?_
    cases h
    exact gx_iret hx hb hr hlocks hG dX9_load_8

set_option maxHeartbeats 4000000 in
set_option maxRecDepth 100000 in
theorem c_M_lose (l : Launch) (g : GC) (σ : St) (x1 : Int32) (r : Int32) (w_sheetSize : Nat → Int32) (h : M_lose x1 (σ.2.2.1 52) = some (r, w_sheetSize)) : Cn l g yX9_lose wsX9_lose 2 45 [.ref (g.2.1 50), .int x1] σ (some (.int r)) (mkS σ [] [] [(52, w_sheetSize)] []) := by
  unfold Cn
  refine Met.ofW (cc := cX9_lose) (maxL := 2) (ret := (some .int)) (by decide) rfl ?_
  intro p e s m args below meth c s₁ B hml hv
  obtain ⟨hargs, hP0, hK⟩ := hv
  have hx := B.exec
  have hb := B.bytes
  have hr := B.returns
  have hts := atoms_spec (ws := wsX9_lose) B.pre
  have hown : s.vm.findClass RX9 = some m.cls := findClass_of_methodNamed B.named
  have hlocks := B.notSynchronized
  have hS9 : CallFix p m c cX9_lose 2 s args wsX9_lose RX9 := ⟨hx, hb, hml, hown, hts⟩
  have hinX9 : ∀ w ∈ wsX90, w ∈ wsX9_lose := fun w h => List.mem_cons_of_mem _ (List.mem_append_right _ (h))
  have hw0 := hts (.fieldLink RX9 13 "LikeNetsModel" "sheetSize" "[I") (List.mem_of_getElem? (i := 1) rfl)
  have hf9 : entryFrame m args 2 = _ := (congrArg (fun a => entryFrame m a 2) hargs).trans (lg_entry_eq m [.ref (g.2.1 50), .int x1] 2)
  show Wg p l e 2 45 s m args below meth c g (some (.int r)) (mkS σ [] [] [(52, w_sheetSize)] []) s.heap [] (entryFrame m args 2)
  rw [hf9]
  have hl := lv_entry ([.ref (g.2.1 50), .int x1]) (n := 2) (Nat.le_of_ble_eq_true rfl)
  generalize (lg_sl ([.ref (g.2.1 50), .int x1]) ++ List.replicate (2 - (lg_sl ([.ref (g.2.1 50), .int x1])).length) Slot.unset).toArray = ls at hl ⊢
  have hl : lv_has ls 2 [(0, .ref (g.2.1 50)), (1, .int x1)] := hl
  have hG : GW g s σ s.heap [] := ⟨hP0, va_S.rf⟩
  have hG : GW g s (mkS σ [] [] [(52, (σ.2.2.1 52))] []) s.heap [] := GW_self [] [] [52] [] hG
  unfold M_lose at h
  refine lv_iload_n hx hb dX9_lose_0 rfl (lv_at hl 1 rfl) ?_
  obtain ⟨z1, hc2, h⟩ := bnd_some h
  refine gx_cS (σ' := (mkS σ [] [] [(52, (σ.2.2.1 52))] [])) (r := (some (.int z1))) (rest := []) (As := [.int x1]) hS9 (c_M_isSheet l g (mkS σ [] [] [(52, (σ.2.2.1 52))] []) x1 z1 hc2) rfl (va_cwS 1 hts gX9_lose_X9_isSheet rfl rfl rfl (by decide +kernel) ⟨Nat.le_of_ble_eq_true rfl, Nat.le_of_ble_eq_true rfl⟩) hK hG rfl hl.1 rfl (Nat.le_of_ble_eq_true rfl) dX9_lose_1 (fun H locs hG => ?_)
  refine W.eq (g2 := F0 m 4 ls [.int z1]) rfl ?_
  refine lv_if_ne (tgt := 9) hx hb dX9_lose_4 (by decide) (fun c3 => ?_) (fun c3 => ?_)
  · have h := ite_f c3 h
    refine lv_aload_n hx hb dX9_lose_9 rfl (lv_at hl 0 rfl) ?_
    refine gx_get (v := .ref (g.2.1 52)) (C := RX9) (T := TX9) (N := 44) hx hb hts hinX9 hown hK hG (ga_50 g _) rfl 1 (by decide) hw0 rfl rfl dX9_lose_10 ?_
    refine lv_iload_n hx hb dX9_lose_13 rfl (lv_at hl 1 rfl) ?_
    obtain ⟨hg4, h⟩ := gd_some h
    refine gx_iald (f := (σ.2.2.1 52)) hx hb hK hG (ga_52 g _) hg4 dX9_lose_14 ?_
    refine lv_if_ge (tgt := 21) hx hb dX9_lose_15 (by decide) (fun c5 => ?_) (fun c5 => ?_)
    · have h := ite_t c5 h
      refine lv_aload_n hx hb dX9_lose_21 rfl (lv_at hl 0 rfl) ?_
      refine gx_get (v := .ref (g.2.1 52)) (C := RX9) (T := TX9) (N := 44) hx hb hts hinX9 hown hK hG (ga_50 g _) rfl 1 (by decide) hw0 rfl rfl dX9_lose_22 ?_
      refine lv_iload_n hx hb dX9_lose_25 rfl (lv_at hl 1 rfl) ?_
      refine lv_iconst (v := (-1 : Int32)) hx hb dX9_lose_26 (by decide) ?_
      refine gx_iast (σ' := (mkS σ [] [] [(52, (upd (σ.2.2.1 52) (x1.toNatClampNeg) (-1 : Int32)))] [])) (f := (σ.2.2.1 52)) hx hb hK hG (ga_52 g _) hg4 ((gs_52 g _ _).trans (congrArg (g_cells g) (mk_c 0 rfl rfl))) dX9_lose_27 (fun H locs hG => ?_)
      refine lv_iconst (v := (1 : Int32)) hx hb dX9_lose_28 (by decide) ?_
      cases h
      exact gx_iret hx hb hr hlocks hG dX9_lose_29
    · have h := ite_f c5 h
      refine lv_bipush (v := (-3 : Int32)) hx hb dX9_lose_18 (by decide) ?_
      cases h
      exact gx_iret hx hb hr hlocks hG dX9_lose_20
  · have h := ite_t c3 h
    refine lv_iconst (v := (-1 : Int32)) hx hb dX9_lose_7 (by decide) ?_
    cases h
    exact gx_iret hx hb hr hlocks hG dX9_lose_8

set_option maxHeartbeats 4000000 in
set_option maxRecDepth 100000 in
theorem c_M_isEven (l : Launch) (g : GC) (σ : St) (r : Int32) (h : M_isEven (σ.1 3203) (σ.2.2.1 54) = some r) : Cn l g yX9_isEven wsX9_isEven 1 23 [.ref (g.2.1 50)] σ (some (.int r)) σ := by
  unfold Cn
  refine Met.ofW (cc := cX9_isEven) (maxL := 3) (ret := (some .boolean)) (by decide) rfl ?_
  intro p e s m args below meth c s₁ B hml hv
  obtain ⟨hargs, hP0, hK⟩ := hv
  have hx := B.exec
  have hb := B.bytes
  have hr := B.returns
  have hts := atoms_spec (ws := wsX9_isEven) B.pre
  have hown : s.vm.findClass RX9 = some m.cls := findClass_of_methodNamed B.named
  have hlocks := B.notSynchronized
  have hS9 : CallFix p m c cX9_isEven 3 s args wsX9_isEven RX9 := ⟨hx, hb, hml, hown, hts⟩
  have hinX9 : ∀ w ∈ wsX90, w ∈ wsX9_isEven := fun w h => List.mem_cons_of_mem _ (List.mem_append_right _ (h))
  have hw0 := hts (.fieldLink RX9 116 "LikeNetsModel" "posts" "I") (List.mem_of_getElem? (i := 1) rfl)
  have hf9 : entryFrame m args 3 = _ := (congrArg (fun a => entryFrame m a 3) hargs).trans (lg_entry_eq m [.ref (g.2.1 50)] 3)
  show Wg p l e 1 23 s m args below meth c g (some (.int r)) σ s.heap [] (entryFrame m args 3)
  rw [hf9]
  have hl := lv_entry ([.ref (g.2.1 50)]) (n := 3) (Nat.le_of_ble_eq_true rfl)
  generalize (lg_sl ([.ref (g.2.1 50)]) ++ List.replicate (3 - (lg_sl ([.ref (g.2.1 50)])).length) Slot.unset).toArray = ls at hl ⊢
  have hl : lv_has ls 3 [(0, .ref (g.2.1 50))] := hl
  have hG : GW g s σ s.heap [] := ⟨hP0, va_S.rf⟩
  unfold M_isEven at h
  have n34 : ∀ (k4 : Int32 → Int32 → Option (Int32)) (hk4 : ∀ (x1 : Int32) (x2 : Int32) (H : Heap) (locs : List Loc) (ls : Array Slot), lv_has ls 3 [(0, .ref (g.2.1 50)), (1, .int x1), (2, .int x2)] → GW g s σ H locs → k4 x1 x2 = some r → Wg p l e 1 23 s m args below meth c g (some (.int r)) σ H locs (F0 m 4 ls [])) (x2 : Int32) (t0 : Int32) (H : Heap) (locs : List Loc) (ls : Array Slot), lv_has ls 3 [(0, .ref (g.2.1 50)), (2, .int x2)] → GW g s σ H locs → M_isEven_n34 k4 x2 t0 = some r → Wg p l e 1 23 s m args below meth c g (some (.int r)) σ H locs (F0 m 34 ls [.int t0]) := by
    intro k4 hk4 x2 t0 H locs ls hl hG h
    unfold M_isEven_n34 at h
    refine lv_istore_n (lv' := [(1, .int t0), (0, .ref (g.2.1 50)), (2, .int x2)]) hx hb dX9_isEven_34 rfl hl (Nat.le_of_ble_eq_true rfl) rfl (fun ls hl => ?_)
    refine lv_iinc (v := (x2 + (1 : Int32))) (lv' := [(2, .int (x2 + (1 : Int32))), (1, .int t0), (0, .ref (g.2.1 50))]) hx hb dX9_isEven_35 hl (k := 2) rfl (congrArg (fun z => x2 + z) (by decide)) (Nat.le_of_ble_eq_true rfl) rfl (fun ls hl => ?_)
    refine lv_goto (tgt := 4) hx hb dX9_isEven_38 (by decide) ?_
    exact hk4 t0 (x2 + (1 : Int32)) _ _ _ (lv_sub hl [2, 1, 0] rfl) hG h
  have n33 : ∀ (k4 : Int32 → Int32 → Option (Int32)) (hk4 : ∀ (x1 : Int32) (x2 : Int32) (H : Heap) (locs : List Loc) (ls : Array Slot), lv_has ls 3 [(0, .ref (g.2.1 50)), (1, .int x1), (2, .int x2)] → GW g s σ H locs → k4 x1 x2 = some r → Wg p l e 1 23 s m args below meth c g (some (.int r)) σ H locs (F0 m 4 ls [])) (x2 : Int32) (H : Heap) (locs : List Loc) (ls : Array Slot), lv_has ls 3 [(0, .ref (g.2.1 50)), (2, .int x2)] → GW g s σ H locs → M_isEven_n33 k4 x2 = some r → Wg p l e 1 23 s m args below meth c g (some (.int r)) σ H locs (F0 m 33 ls []) := by
    intro k4 hk4 x2 H locs ls hl hG h
    unfold M_isEven_n33 at h
    refine lv_iconst (v := (0 : Int32)) hx hb dX9_isEven_33 (by decide) ?_
    exact n34 k4 hk4 x2 (0 : Int32) _ _ _ (lv_sub hl [0, 1] rfl) hG h
  have n41 : ∀ (x1 : Int32) (H : Heap) (locs : List Loc) (ls : Array Slot), lv_has ls 3 [(1, .int x1)] → GW g s σ H locs → M_isEven_n41 x1 = some r → Wg p l e 1 23 s m args below meth c g (some (.int r)) σ H locs (F0 m 41 ls []) := by
    intro x1 H locs ls hl hG h
    unfold M_isEven_n41 at h
    refine lv_iload_n hx hb dX9_isEven_41 rfl (lv_at hl 0 rfl) ?_
    obtain ⟨hg1, h⟩ := gd_some h
    cases h
    exact gx_zret hx hb hr hlocks hg1 hG dX9_isEven_42
  have n4 : ∀ (k4 : Int32 → Int32 → Option (Int32)) (hk4 : ∀ (x1 : Int32) (x2 : Int32) (H : Heap) (locs : List Loc) (ls : Array Slot), lv_has ls 3 [(0, .ref (g.2.1 50)), (1, .int x1), (2, .int x2)] → GW g s σ H locs → k4 x1 x2 = some r → Wg p l e 1 23 s m args below meth c g (some (.int r)) σ H locs (F0 m 4 ls [])) (x1 : Int32) (x2 : Int32) (H : Heap) (locs : List Loc) (ls : Array Slot), lv_has ls 3 [(0, .ref (g.2.1 50)), (1, .int x1), (2, .int x2)] → GW g s σ H locs → M_isEven_n4 k4 (σ.1 3203) (σ.2.2.1 54) x1 x2 = some r → Wg p l e 1 23 s m args below meth c g (some (.int r)) σ H locs (F0 m 4 ls []) := by
    intro k4 hk4 x1 x2 H locs ls hl hG h
    unfold M_isEven_n4 at h
    refine lv_iload_n hx hb dX9_isEven_4 rfl (lv_at hl 2 rfl) ?_
    refine lv_aload_n hx hb dX9_isEven_5 rfl (lv_at hl 0 rfl) ?_
    refine gx_get (v := .int (σ.1 3203)) (C := RX9) (T := TX9) (N := 44) hx hb hts hinX9 hown hK hG (ga_50 g _) rfl 3 (by decide) hw0 rfl rfl dX9_isEven_6 ?_
    refine lv_icmp_ge (tgt := 41) hx hb dX9_isEven_9 (by decide) (fun c2 => ?_) (fun c2 => ?_)
    · have h := ite_t c2 h
      exact n41 x1 _ _ _ (lv_sub hl [1] rfl) hG h
    · have h := ite_f c2 h
      refine lv_iload_n hx hb dX9_isEven_12 rfl (lv_at hl 1 rfl) ?_
      refine lv_if_eq (tgt := 33) hx hb dX9_isEven_13 (by decide) (fun c3 => ?_) (fun c3 => ?_)
      · have h := ite_t c3 h
        exact n33 k4 hk4 x2 _ _ _ (lv_sub hl [0, 2] rfl) hG h
      · have h := ite_f c3 h
        refine lv_aload_n hx hb dX9_isEven_16 rfl (lv_at hl 0 rfl) ?_
        refine lv_iload_n hx hb dX9_isEven_17 rfl (lv_at hl 2 rfl) ?_
        obtain ⟨z4, hc5, h⟩ := bnd_some h
        refine gx_cV (σ' := σ) (r := (some (.int z4))) (rest := []) (As := [.int x2]) hS9 (c_M_fullness l g σ x2 z4 hc5) rfl (cwV 1 hts gX9_isEven_X9_fullness rfl rfl rfl (by decide +kernel) ⟨Nat.le_of_ble_eq_true rfl, Nat.le_of_ble_eq_true rfl⟩) hK hG (ga_50 g _) rfl rfl rfl hl.1 rfl (Nat.le_of_ble_eq_true rfl) dX9_isEven_18 (fun H locs hG => ?_)
        refine W.eq (g2 := F0 m 21 ls [.int z4]) rfl ?_
        refine lv_aload_n hx hb dX9_isEven_21 rfl (lv_at hl 0 rfl) ?_
        refine lv_iconst (v := (0 : Int32)) hx hb dX9_isEven_22 (by decide) ?_
        obtain ⟨z6, hc7, h⟩ := bnd_some h
        refine gx_cV (σ' := σ) (r := (some (.int z6))) (rest := [.int z4]) (As := [.int (0 : Int32)]) hS9 (c_M_fullness l g σ (0 : Int32) z6 hc7) rfl (cwV 1 hts gX9_isEven_X9_fullness rfl rfl rfl (by decide +kernel) ⟨Nat.le_of_ble_eq_true rfl, Nat.le_of_ble_eq_true rfl⟩) hK hG (ga_50 g _) rfl rfl rfl hl.1 rfl (Nat.le_of_ble_eq_true rfl) dX9_isEven_23 (fun H locs hG => ?_)
        refine W.eq (g2 := F0 m 26 ls [.int z6, .int z4]) rfl ?_
        refine lv_icmp_ne (tgt := 33) hx hb dX9_isEven_26 (by decide) (fun c8 => ?_) (fun c8 => ?_)
        · have h := ite_f c8 h
          exact n33 k4 hk4 x2 _ _ _ (lv_sub hl [0, 2] rfl) hG h
        · have h := ite_t c8 h
          refine lv_iconst (v := (1 : Int32)) hx hb dX9_isEven_29 (by decide) ?_
          refine lv_goto (tgt := 34) hx hb dX9_isEven_30 (by decide) ?_
          exact n34 k4 hk4 x2 (1 : Int32) _ _ _ (lv_sub hl [0, 2] rfl) hG h
  have l4 : ∀  (F : Nat) (x1 : Int32) (x2 : Int32) (H : Heap) (locs : List Loc) (ls : Array Slot), lv_has ls 3 [(0, .ref (g.2.1 50)), (1, .int x1), (2, .int x2)] → GW g s σ H locs → M_isEven_l4 (σ.1 3203) (σ.2.2.1 54) F x1 x2 = some r → Wg p l e 1 23 s m args below meth c g (some (.int r)) σ H locs (F0 m 4 ls []) := by
    intro F
    induction F with
    | zero => intro x1 x2 H locs ls hl hG h; exact no_some h
    | succ F ih => intro x1 x2 H locs ls hl hG h; exact n4 (fun x1 x2 => M_isEven_l4 (σ.1 3203) (σ.2.2.1 54) F x1 x2) ih x1 x2 H locs ls hl hG h
  refine lv_iconst (v := (1 : Int32)) hx hb dX9_isEven_0 (by decide) ?_
  refine lv_istore_n (lv' := [(1, .int (1 : Int32)), (0, .ref (g.2.1 50))]) hx hb dX9_isEven_1 rfl hl (Nat.le_of_ble_eq_true rfl) rfl (fun ls hl => ?_)
  refine lv_iconst (v := (1 : Int32)) hx hb dX9_isEven_2 (by decide) ?_
  refine lv_istore_n (lv' := [(2, .int (1 : Int32)), (1, .int (1 : Int32)), (0, .ref (g.2.1 50))]) hx hb dX9_isEven_3 rfl hl (Nat.le_of_ble_eq_true rfl) rfl (fun ls hl => ?_)
  exact l4 FUEL (1 : Int32) (1 : Int32) _ _ _ (lv_sub hl [2, 1, 0] rfl) hG h

set_option maxHeartbeats 4000000 in
set_option maxRecDepth 100000 in
theorem c_M_wayRound (l : Launch) (g : GC) (σ : St) (x1 : Int32) (x2 : Int32) (r : Int32) (w_layer : Nat → Int32) (h : M_wayRound x1 x2 (σ.1 3203) (σ.2.2.1 60) (σ.2.2.1 54) = some (r, w_layer)) : Cn l g yX9_wayRound wsX9_wayRound 0 0 [.ref (g.2.1 50), .int x1, .int x2] σ (some (.int r)) (mkS σ [] [] [(60, w_layer)] []) := by
  unfold Cn
  refine Met.ofW (cc := cX9_wayRound) (maxL := 7) (ret := (some .int)) (by decide) rfl ?_
  intro p e s m args below meth c s₁ B hml hv
  obtain ⟨hargs, hP0, hK⟩ := hv
  have hx := B.exec
  have hb := B.bytes
  have hr := B.returns
  have hts := atoms_spec (ws := wsX9_wayRound) B.pre
  have hown : s.vm.findClass RX9 = some m.cls := findClass_of_methodNamed B.named
  have hlocks := B.notSynchronized
  have hinX9 : ∀ w ∈ wsX90, w ∈ wsX9_wayRound := fun w h => List.mem_cons_of_mem _ (List.mem_append_right _ (h))
  have hw0 := hts (.fieldLink RX9 42 "LikeNetsModel" "layer" "[I") (List.mem_of_getElem? (i := 2) rfl)
  have hw1 := hts (.fieldLink RX9 116 "LikeNetsModel" "posts" "I") (List.mem_of_getElem? (i := 1) rfl)
  have hw2 := hts (.fieldLink RX9 19 "LikeNetsModel" "road" "[Z") (List.mem_of_getElem? (i := 3) rfl)
  have hf9 : entryFrame m args 7 = _ := (congrArg (fun a => entryFrame m a 7) hargs).trans (lg_entry_eq m [.ref (g.2.1 50), .int x1, .int x2] 7)
  show Wg p l e 0 0 s m args below meth c g (some (.int r)) (mkS σ [] [] [(60, w_layer)] []) s.heap [] (entryFrame m args 7)
  rw [hf9]
  have hl := lv_entry ([.ref (g.2.1 50), .int x1, .int x2]) (n := 7) (Nat.le_of_ble_eq_true rfl)
  generalize (lg_sl ([.ref (g.2.1 50), .int x1, .int x2]) ++ List.replicate (7 - (lg_sl ([.ref (g.2.1 50), .int x1, .int x2])).length) Slot.unset).toArray = ls at hl ⊢
  have hl : lv_has ls 7 [(0, .ref (g.2.1 50)), (1, .int x1), (2, .int x2)] := hl
  have hG : GW g s σ s.heap [] := ⟨hP0, va_S.rf⟩
  have hG : GW g s (mkS σ [] [] [(60, (σ.2.2.1 60))] []) s.heap [] := GW_self [] [] [60] [] hG
  unfold M_wayRound at h
  have n26 : ∀ (k2 : Int32 → Int32 → Int32 → (Nat → Int32) → Option (Int32 × (Nat → Int32))) (hk2 : ∀ (x1 : Int32) (x2 : Int32) (x3 : Int32) (v_layer : Nat → Int32) (H : Heap) (locs : List Loc) (ls : Array Slot), lv_has ls 7 [(0, .ref (g.2.1 50)), (1, .int x1), (2, .int x2), (3, .int x3)] → GW g s (mkS σ [] [] [(60, v_layer)] []) H locs → k2 x1 x2 x3 v_layer = some (r, w_layer) → Wg p l e 0 0 s m args below meth c g (some (.int r)) (mkS σ [] [] [(60, w_layer)] []) H locs (F0 m 2 ls [])) (x1 : Int32) (x2 : Int32) (x3 : Int32) (t1 : Int32) (t2 : Int32) (v_layer : Nat → Int32) (H : Heap) (locs : List Loc) (ls : Array Slot), lv_has ls 7 [(0, .ref (g.2.1 50)), (1, .int x1), (2, .int x2), (3, .int x3)] → GW g s (mkS σ [] [] [(60, v_layer)] []) H locs → M_wayRound_n26 k2 x1 x2 x3 t1 t2 v_layer = some (r, w_layer) → Wg p l e 0 0 s m args below meth c g (some (.int r)) (mkS σ [] [] [(60, w_layer)] []) H locs (F0 m 26 ls [.int t2, .int t1, .ref (g.2.1 60)]) := by
    intro k2 hk2 x1 x2 x3 t1 t2 v_layer H locs ls hl hG h
    unfold M_wayRound_n26 at h
    obtain ⟨hg1, h⟩ := gd_some h
    refine gx_iast (σ' := (mkS σ [] [] [(60, (upd v_layer (t1.toNatClampNeg) t2))] [])) (f := v_layer) hx hb hK hG (ga_60 g _) hg1 ((gs_60 g _ _).trans (congrArg (g_cells g) (mk_c 0 rfl rfl))) dX9_wayRound_26 (fun H locs hG => ?_)
    refine lv_iinc (v := (x3 + (1 : Int32))) (lv' := [(3, .int (x3 + (1 : Int32))), (0, .ref (g.2.1 50)), (1, .int x1), (2, .int x2)]) hx hb dX9_wayRound_27 hl (k := 3) rfl (congrArg (fun z => x3 + z) (by decide)) (Nat.le_of_ble_eq_true rfl) rfl (fun ls hl => ?_)
    refine lv_goto (tgt := 2) hx hb dX9_wayRound_30 (by decide) ?_
    exact hk2 x1 x2 (x3 + (1 : Int32)) (upd v_layer (t1.toNatClampNeg) t2) _ _ _ (lv_sub hl [1, 2, 3, 0] rfl) hG h
  have n149 : ∀ (k58 : Int32 → Int32 → Int32 → Int32 → Int32 → (Nat → Int32) → Option (Int32 × (Nat → Int32))) (hk58 : ∀ (x1 : Int32) (x2 : Int32) (x3 : Int32) (x4 : Int32) (x5 : Int32) (v_layer : Nat → Int32) (H : Heap) (locs : List Loc) (ls : Array Slot), lv_has ls 7 [(0, .ref (g.2.1 50)), (1, .int x1), (2, .int x2), (3, .int x3), (4, .int x4), (5, .int x5)] → GW g s (mkS σ [] [] [(60, v_layer)] []) H locs → k58 x1 x2 x3 x4 x5 v_layer = some (r, w_layer) → Wg p l e 0 0 s m args below meth c g (some (.int r)) (mkS σ [] [] [(60, w_layer)] []) H locs (F0 m 58 ls [])) (x1 : Int32) (x2 : Int32) (x3 : Int32) (x4 : Int32) (x5 : Int32) (t1 : Int32) (t2 : Int32) (v_layer : Nat → Int32) (H : Heap) (locs : List Loc) (ls : Array Slot), lv_has ls 7 [(0, .ref (g.2.1 50)), (1, .int x1), (2, .int x2), (3, .int x3), (4, .int x4), (5, .int x5)] → GW g s (mkS σ [] [] [(60, v_layer)] []) H locs → M_wayRound_n149 k58 x1 x2 x3 x4 x5 t1 t2 v_layer = some (r, w_layer) → Wg p l e 0 0 s m args below meth c g (some (.int r)) (mkS σ [] [] [(60, w_layer)] []) H locs (F0 m 149 ls [.int t2, .int t1, .ref (g.2.1 60)]) := by
    intro k58 hk58 x1 x2 x3 x4 x5 t1 t2 v_layer H locs ls hl hG h
    unfold M_wayRound_n149 at h
    obtain ⟨hg2, h⟩ := gd_some h
    refine gx_iast (σ' := (mkS σ [] [] [(60, (upd v_layer (t1.toNatClampNeg) t2))] [])) (f := v_layer) hx hb hK hG (ga_60 g _) hg2 ((gs_60 g _ _).trans (congrArg (g_cells g) (mk_c 0 rfl rfl))) dX9_wayRound_149 (fun H locs hG => ?_)
    refine lv_iinc (v := (x5 + (1 : Int32))) (lv' := [(5, .int (x5 + (1 : Int32))), (0, .ref (g.2.1 50)), (1, .int x1), (2, .int x2), (3, .int x3), (4, .int x4)]) hx hb dX9_wayRound_150 hl (k := 5) rfl (congrArg (fun z => x5 + z) (by decide)) (Nat.le_of_ble_eq_true rfl) rfl (fun ls hl => ?_)
    refine lv_goto (tgt := 58) hx hb dX9_wayRound_153 (by decide) ?_
    exact hk58 x1 x2 x3 x4 (x5 + (1 : Int32)) (upd v_layer (t1.toNatClampNeg) t2) _ _ _ (lv_sub hl [1, 2, 3, 4, 5, 0] rfl) hG h
  have n142 : ∀ (k58 : Int32 → Int32 → Int32 → Int32 → Int32 → (Nat → Int32) → Option (Int32 × (Nat → Int32))) (hk58 : ∀ (x1 : Int32) (x2 : Int32) (x3 : Int32) (x4 : Int32) (x5 : Int32) (v_layer : Nat → Int32) (H : Heap) (locs : List Loc) (ls : Array Slot), lv_has ls 7 [(0, .ref (g.2.1 50)), (1, .int x1), (2, .int x2), (3, .int x3), (4, .int x4), (5, .int x5)] → GW g s (mkS σ [] [] [(60, v_layer)] []) H locs → k58 x1 x2 x3 x4 x5 v_layer = some (r, w_layer) → Wg p l e 0 0 s m args below meth c g (some (.int r)) (mkS σ [] [] [(60, w_layer)] []) H locs (F0 m 58 ls [])) (x1 : Int32) (x2 : Int32) (x3 : Int32) (x4 : Int32) (x5 : Int32) (t1 : Int32) (v_layer : Nat → Int32) (H : Heap) (locs : List Loc) (ls : Array Slot), lv_has ls 7 [(0, .ref (g.2.1 50)), (1, .int x1), (2, .int x2), (3, .int x3), (4, .int x4), (5, .int x5)] → GW g s (mkS σ [] [] [(60, v_layer)] []) H locs → M_wayRound_n142 k58 x1 x2 x3 x4 x5 t1 v_layer = some (r, w_layer) → Wg p l e 0 0 s m args below meth c g (some (.int r)) (mkS σ [] [] [(60, w_layer)] []) H locs (F0 m 142 ls [.int t1, .ref (g.2.1 60)]) := by
    intro k58 hk58 x1 x2 x3 x4 x5 t1 v_layer H locs ls hl hG h
    unfold M_wayRound_n142 at h
    refine lv_aload_n hx hb dX9_wayRound_142 rfl (lv_at hl 0 rfl) ?_
    refine gx_get (v := .ref (g.2.1 60)) (C := RX9) (T := TX9) (N := 44) hx hb hts hinX9 hown hK hG (ga_50 g _) rfl 16 (by decide) hw0 rfl rfl dX9_wayRound_143 ?_
    refine lv_iload hx hb dX9_wayRound_146 (lv_at hl 5 rfl) ?_
    obtain ⟨hg3, h⟩ := gd_some h
    refine gx_iald (f := v_layer) hx hb hK hG (ga_60 g _) hg3 dX9_wayRound_148 ?_
    exact n149 k58 hk58 x1 x2 x3 x4 x5 t1 (v_layer (x5.toNatClampNeg)) v_layer _ _ _ (lv_sub hl [0, 1, 2, 3, 4, 5] rfl) hG h
  have n111 : ∀ (k58 : Int32 → Int32 → Int32 → Int32 → Int32 → (Nat → Int32) → Option (Int32 × (Nat → Int32))) (hk58 : ∀ (x1 : Int32) (x2 : Int32) (x3 : Int32) (x4 : Int32) (x5 : Int32) (v_layer : Nat → Int32) (H : Heap) (locs : List Loc) (ls : Array Slot), lv_has ls 7 [(0, .ref (g.2.1 50)), (1, .int x1), (2, .int x2), (3, .int x3), (4, .int x4), (5, .int x5)] → GW g s (mkS σ [] [] [(60, v_layer)] []) H locs → k58 x1 x2 x3 x4 x5 v_layer = some (r, w_layer) → Wg p l e 0 0 s m args below meth c g (some (.int r)) (mkS σ [] [] [(60, w_layer)] []) H locs (F0 m 58 ls [])) (x1 : Int32) (x2 : Int32) (x3 : Int32) (x4 : Int32) (x5 : Int32) (t0 : Int32) (v_layer : Nat → Int32) (H : Heap) (locs : List Loc) (ls : Array Slot), lv_has ls 7 [(0, .ref (g.2.1 50)), (1, .int x1), (2, .int x2), (3, .int x3), (4, .int x4), (5, .int x5)] → GW g s (mkS σ [] [] [(60, v_layer)] []) H locs → M_wayRound_n111 k58 x1 x2 x3 x4 x5 t0 v_layer = some (r, w_layer) → Wg p l e 0 0 s m args below meth c g (some (.int r)) (mkS σ [] [] [(60, w_layer)] []) H locs (F0 m 111 ls [.int t0]) := by
    intro k58 hk58 x1 x2 x3 x4 x5 t0 v_layer H locs ls hl hG h
    unfold M_wayRound_n111 at h
    refine lv_istore (lv' := [(6, .int t0), (0, .ref (g.2.1 50)), (1, .int x1), (2, .int x2), (3, .int x3), (4, .int x4), (5, .int x5)]) hx hb dX9_wayRound_111 hl (Nat.le_of_ble_eq_true rfl) rfl (fun ls hl => ?_)
    refine lv_aload_n hx hb dX9_wayRound_113 rfl (lv_at hl 1 rfl) ?_
    refine gx_get (v := .ref (g.2.1 60)) (C := RX9) (T := TX9) (N := 44) hx hb hts hinX9 hown hK hG (ga_50 g _) rfl 16 (by decide) hw0 rfl rfl dX9_wayRound_114 ?_
    refine lv_iload hx hb dX9_wayRound_117 (lv_at hl 6 rfl) ?_
    refine lv_iload hx hb dX9_wayRound_119 (lv_at hl 0 rfl) ?_
    refine lv_if_eq (tgt := 142) hx hb dX9_wayRound_121 (by decide) (fun c4 => ?_) (fun c4 => ?_)
    · have h := ite_t c4 h
      exact n142 k58 hk58 x1 x2 x3 x4 x5 x5 v_layer _ _ _ (lv_sub hl [1, 2, 3, 4, 5, 6] rfl) hG h
    · have h := ite_f c4 h
      refine lv_aload_n hx hb dX9_wayRound_124 rfl (lv_at hl 1 rfl) ?_
      refine gx_get (v := .ref (g.2.1 60)) (C := RX9) (T := TX9) (N := 44) hx hb hts hinX9 hown hK hG (ga_50 g _) rfl 16 (by decide) hw0 rfl rfl dX9_wayRound_125 ?_
      refine lv_iload hx hb dX9_wayRound_128 (lv_at hl 6 rfl) ?_
      obtain ⟨hg5, h⟩ := gd_some h
      refine gx_iald (f := v_layer) hx hb hK hG (ga_60 g _) hg5 dX9_wayRound_130 ?_
      refine lv_bipush (v := (99 : Int32)) hx hb dX9_wayRound_131 (by decide) ?_
      refine lv_icmp_ne (tgt := 142) hx hb dX9_wayRound_133 (by decide) (fun c6 => ?_) (fun c6 => ?_)
      · have h := ite_f c6 h
        exact n142 k58 hk58 x1 x2 x3 x4 x5 x5 v_layer _ _ _ (lv_sub hl [1, 2, 3, 4, 5, 6] rfl) hG h
      · have h := ite_t c6 h
        refine lv_iload_n hx hb dX9_wayRound_136 rfl (lv_at hl 4 rfl) ?_
        refine lv_iconst (v := (1 : Int32)) hx hb dX9_wayRound_137 (by decide) ?_
        refine lv_iadd hx hb dX9_wayRound_138 ?_
        refine lv_goto (tgt := 149) hx hb dX9_wayRound_139 (by decide) ?_
        exact n149 k58 hk58 x1 x2 x3 x4 x5 x5 (x3 + (1 : Int32)) v_layer _ _ _ (lv_sub hl [1, 2, 3, 4, 5, 6] rfl) hG h
  have n106 : ∀ (k58 : Int32 → Int32 → Int32 → Int32 → Int32 → (Nat → Int32) → Option (Int32 × (Nat → Int32))) (hk58 : ∀ (x1 : Int32) (x2 : Int32) (x3 : Int32) (x4 : Int32) (x5 : Int32) (v_layer : Nat → Int32) (H : Heap) (locs : List Loc) (ls : Array Slot), lv_has ls 7 [(0, .ref (g.2.1 50)), (1, .int x1), (2, .int x2), (3, .int x3), (4, .int x4), (5, .int x5)] → GW g s (mkS σ [] [] [(60, v_layer)] []) H locs → k58 x1 x2 x3 x4 x5 v_layer = some (r, w_layer) → Wg p l e 0 0 s m args below meth c g (some (.int r)) (mkS σ [] [] [(60, w_layer)] []) H locs (F0 m 58 ls [])) (x1 : Int32) (x2 : Int32) (x3 : Int32) (x4 : Int32) (x5 : Int32) (v_layer : Nat → Int32) (H : Heap) (locs : List Loc) (ls : Array Slot), lv_has ls 7 [(0, .ref (g.2.1 50)), (1, .int x1), (2, .int x2), (3, .int x3), (4, .int x4), (5, .int x5)] → GW g s (mkS σ [] [] [(60, v_layer)] []) H locs → M_wayRound_n106 k58 x1 x2 x3 x4 x5 v_layer = some (r, w_layer) → Wg p l e 0 0 s m args below meth c g (some (.int r)) (mkS σ [] [] [(60, w_layer)] []) H locs (F0 m 106 ls []) := by
    intro k58 hk58 x1 x2 x3 x4 x5 v_layer H locs ls hl hG h
    unfold M_wayRound_n106 at h
    refine lv_iconst (v := (1 : Int32)) hx hb dX9_wayRound_106 (by decide) ?_
    refine lv_goto (tgt := 111) hx hb dX9_wayRound_107 (by decide) ?_
    exact n111 k58 hk58 x1 x2 x3 x4 x5 (1 : Int32) v_layer _ _ _ (lv_sub hl [0, 1, 2, 3, 4, 5] rfl) hG h
  have n110 : ∀ (k58 : Int32 → Int32 → Int32 → Int32 → Int32 → (Nat → Int32) → Option (Int32 × (Nat → Int32))) (hk58 : ∀ (x1 : Int32) (x2 : Int32) (x3 : Int32) (x4 : Int32) (x5 : Int32) (v_layer : Nat → Int32) (H : Heap) (locs : List Loc) (ls : Array Slot), lv_has ls 7 [(0, .ref (g.2.1 50)), (1, .int x1), (2, .int x2), (3, .int x3), (4, .int x4), (5, .int x5)] → GW g s (mkS σ [] [] [(60, v_layer)] []) H locs → k58 x1 x2 x3 x4 x5 v_layer = some (r, w_layer) → Wg p l e 0 0 s m args below meth c g (some (.int r)) (mkS σ [] [] [(60, w_layer)] []) H locs (F0 m 58 ls [])) (x1 : Int32) (x2 : Int32) (x3 : Int32) (x4 : Int32) (x5 : Int32) (v_layer : Nat → Int32) (H : Heap) (locs : List Loc) (ls : Array Slot), lv_has ls 7 [(0, .ref (g.2.1 50)), (1, .int x1), (2, .int x2), (3, .int x3), (4, .int x4), (5, .int x5)] → GW g s (mkS σ [] [] [(60, v_layer)] []) H locs → M_wayRound_n110 k58 x1 x2 x3 x4 x5 v_layer = some (r, w_layer) → Wg p l e 0 0 s m args below meth c g (some (.int r)) (mkS σ [] [] [(60, w_layer)] []) H locs (F0 m 110 ls []) := by
    intro k58 hk58 x1 x2 x3 x4 x5 v_layer H locs ls hl hG h
    unfold M_wayRound_n110 at h
    refine lv_iconst (v := (0 : Int32)) hx hb dX9_wayRound_110 (by decide) ?_
    exact n111 k58 hk58 x1 x2 x3 x4 x5 (0 : Int32) v_layer _ _ _ (lv_sub hl [0, 1, 2, 3, 4, 5] rfl) hG h
  have n156 : ∀ (k46 : Int32 → Int32 → Int32 → Int32 → (Nat → Int32) → Option (Int32 × (Nat → Int32))) (hk46 : ∀ (x1 : Int32) (x2 : Int32) (x3 : Int32) (x4 : Int32) (v_layer : Nat → Int32) (H : Heap) (locs : List Loc) (ls : Array Slot), lv_has ls 7 [(0, .ref (g.2.1 50)), (1, .int x1), (2, .int x2), (3, .int x3), (4, .int x4)] → GW g s (mkS σ [] [] [(60, v_layer)] []) H locs → k46 x1 x2 x3 x4 v_layer = some (r, w_layer) → Wg p l e 0 0 s m args below meth c g (some (.int r)) (mkS σ [] [] [(60, w_layer)] []) H locs (F0 m 46 ls [])) (x1 : Int32) (x2 : Int32) (x3 : Int32) (x4 : Int32) (v_layer : Nat → Int32) (H : Heap) (locs : List Loc) (ls : Array Slot), lv_has ls 7 [(0, .ref (g.2.1 50)), (1, .int x1), (2, .int x2), (3, .int x3), (4, .int x4)] → GW g s (mkS σ [] [] [(60, v_layer)] []) H locs → M_wayRound_n156 k46 x1 x2 x3 x4 v_layer = some (r, w_layer) → Wg p l e 0 0 s m args below meth c g (some (.int r)) (mkS σ [] [] [(60, w_layer)] []) H locs (F0 m 156 ls []) := by
    intro k46 hk46 x1 x2 x3 x4 v_layer H locs ls hl hG h
    unfold M_wayRound_n156 at h
    refine lv_iinc (v := (x4 + (1 : Int32))) (lv' := [(4, .int (x4 + (1 : Int32))), (0, .ref (g.2.1 50)), (1, .int x1), (2, .int x2), (3, .int x3)]) hx hb dX9_wayRound_156 hl (k := 4) rfl (congrArg (fun z => x4 + z) (by decide)) (Nat.le_of_ble_eq_true rfl) rfl (fun ls hl => ?_)
    refine lv_goto (tgt := 46) hx hb dX9_wayRound_159 (by decide) ?_
    exact hk46 x1 x2 x3 (x4 + (1 : Int32)) v_layer _ _ _ (lv_sub hl [1, 2, 3, 4, 0] rfl) hG h
  have n58 : ∀ (k46 : Int32 → Int32 → Int32 → Int32 → (Nat → Int32) → Option (Int32 × (Nat → Int32))) (hk46 : ∀ (x1 : Int32) (x2 : Int32) (x3 : Int32) (x4 : Int32) (v_layer : Nat → Int32) (H : Heap) (locs : List Loc) (ls : Array Slot), lv_has ls 7 [(0, .ref (g.2.1 50)), (1, .int x1), (2, .int x2), (3, .int x3), (4, .int x4)] → GW g s (mkS σ [] [] [(60, v_layer)] []) H locs → k46 x1 x2 x3 x4 v_layer = some (r, w_layer) → Wg p l e 0 0 s m args below meth c g (some (.int r)) (mkS σ [] [] [(60, w_layer)] []) H locs (F0 m 46 ls [])) (k58 : Int32 → Int32 → Int32 → Int32 → Int32 → (Nat → Int32) → Option (Int32 × (Nat → Int32))) (hk58 : ∀ (x1 : Int32) (x2 : Int32) (x3 : Int32) (x4 : Int32) (x5 : Int32) (v_layer : Nat → Int32) (H : Heap) (locs : List Loc) (ls : Array Slot), lv_has ls 7 [(0, .ref (g.2.1 50)), (1, .int x1), (2, .int x2), (3, .int x3), (4, .int x4), (5, .int x5)] → GW g s (mkS σ [] [] [(60, v_layer)] []) H locs → k58 x1 x2 x3 x4 x5 v_layer = some (r, w_layer) → Wg p l e 0 0 s m args below meth c g (some (.int r)) (mkS σ [] [] [(60, w_layer)] []) H locs (F0 m 58 ls [])) (x1 : Int32) (x2 : Int32) (x3 : Int32) (x4 : Int32) (x5 : Int32) (v_layer : Nat → Int32) (H : Heap) (locs : List Loc) (ls : Array Slot), lv_has ls 7 [(0, .ref (g.2.1 50)), (1, .int x1), (2, .int x2), (3, .int x3), (4, .int x4), (5, .int x5)] → GW g s (mkS σ [] [] [(60, v_layer)] []) H locs → M_wayRound_n58 k46 k58 (σ.1 3203) (σ.2.2.1 54) x1 x2 x3 x4 x5 v_layer = some (r, w_layer) → Wg p l e 0 0 s m args below meth c g (some (.int r)) (mkS σ [] [] [(60, w_layer)] []) H locs (F0 m 58 ls []) := by
    intro k46 hk46 k58 hk58 x1 x2 x3 x4 x5 v_layer H locs ls hl hG h
    unfold M_wayRound_n58 at h
    refine lv_iload hx hb dX9_wayRound_58 (lv_at hl 5 rfl) ?_
    refine lv_aload_n hx hb dX9_wayRound_60 rfl (lv_at hl 0 rfl) ?_
    refine gx_get (v := .int (σ.1 3203)) (C := RX9) (T := TX9) (N := 44) hx hb hts hinX9 hown hK hG (ga_50 g _) rfl 3 (by decide) hw1 rfl rfl dX9_wayRound_61 ?_
    refine lv_icmp_ge (tgt := 156) hx hb dX9_wayRound_64 (by decide) (fun c7 => ?_) (fun c7 => ?_)
    · have h := ite_t c7 h
      exact n156 k46 hk46 x1 x2 x3 x4 v_layer _ _ _ (lv_sub hl [0, 1, 2, 3, 4] rfl) hG h
    · have h := ite_f c7 h
      refine lv_aload_n hx hb dX9_wayRound_67 rfl (lv_at hl 0 rfl) ?_
      refine gx_get (v := .ref (g.2.1 60)) (C := RX9) (T := TX9) (N := 44) hx hb hts hinX9 hown hK hG (ga_50 g _) rfl 16 (by decide) hw0 rfl rfl dX9_wayRound_68 ?_
      refine lv_iload hx hb dX9_wayRound_71 (lv_at hl 4 rfl) ?_
      obtain ⟨hg8, h⟩ := gd_some h
      refine gx_iald (f := v_layer) hx hb hK hG (ga_60 g _) hg8 dX9_wayRound_73 ?_
      refine lv_iload_n hx hb dX9_wayRound_74 rfl (lv_at hl 3 rfl) ?_
      refine lv_icmp_ne (tgt := 156) hx hb dX9_wayRound_75 (by decide) (fun c9 => ?_) (fun c9 => ?_)
      · have h := ite_f c9 h
        exact n156 k46 hk46 x1 x2 x3 x4 v_layer _ _ _ (lv_sub hl [0, 1, 2, 3, 4] rfl) hG h
      · have h := ite_t c9 h
        refine lv_aload_n hx hb dX9_wayRound_78 rfl (lv_at hl 0 rfl) ?_
        refine gx_get (v := .ref (g.2.1 54)) (C := RX9) (T := TX9) (N := 44) hx hb hts hinX9 hown hK hG (ga_50 g _) rfl 4 (by decide) hw2 rfl rfl dX9_wayRound_79 ?_
        refine lv_bipush (v := (32 : Int32)) hx hb dX9_wayRound_82 (by decide) ?_
        refine lv_iload hx hb dX9_wayRound_84 (lv_at hl 4 rfl) ?_
        refine lv_imul hx hb dX9_wayRound_86 ?_
        refine lv_iload hx hb dX9_wayRound_87 (lv_at hl 5 rfl) ?_
        refine lv_iadd hx hb dX9_wayRound_89 ?_
        obtain ⟨hg10, h⟩ := gd_some h
        refine gx_zald (f := (σ.2.2.1 54)) hx hb hK hG (ga_54 g _) hg10 dX9_wayRound_90 ?_
        refine lv_if_eq (tgt := 110) hx hb dX9_wayRound_91 (by decide) (fun c11 => ?_) (fun c11 => ?_)
        · have h := ite_t c11 h
          exact n110 k58 hk58 x1 x2 x3 x4 x5 v_layer _ _ _ (lv_sub hl [0, 1, 2, 3, 4, 5] rfl) hG h
        · have h := ite_f c11 h
          refine lv_iload hx hb dX9_wayRound_94 (lv_at hl 4 rfl) ?_
          refine lv_iload_n hx hb dX9_wayRound_96 rfl (lv_at hl 1 rfl) ?_
          refine lv_icmp_ne (tgt := 106) hx hb dX9_wayRound_97 (by decide) (fun c12 => ?_) (fun c12 => ?_)
          · have h := ite_f c12 h
            exact n106 k58 hk58 x1 x2 x3 x4 x5 v_layer _ _ _ (lv_sub hl [0, 1, 2, 3, 4, 5] rfl) hG h
          · have h := ite_t c12 h
            refine lv_iload hx hb dX9_wayRound_100 (lv_at hl 5 rfl) ?_
            refine lv_iload_n hx hb dX9_wayRound_102 rfl (lv_at hl 2 rfl) ?_
            refine lv_icmp_eq (tgt := 110) hx hb dX9_wayRound_103 (by decide) (fun c13 => ?_) (fun c13 => ?_)
            · have h := ite_t c13 h
              exact n110 k58 hk58 x1 x2 x3 x4 x5 v_layer _ _ _ (lv_sub hl [0, 1, 2, 3, 4, 5] rfl) hG h
            · have h := ite_f c13 h
              exact n106 k58 hk58 x1 x2 x3 x4 x5 v_layer _ _ _ (lv_sub hl [0, 1, 2, 3, 4, 5] rfl) hG h
  have l58 : ∀ (k46 : Int32 → Int32 → Int32 → Int32 → (Nat → Int32) → Option (Int32 × (Nat → Int32))) (hk46 : ∀ (x1 : Int32) (x2 : Int32) (x3 : Int32) (x4 : Int32) (v_layer : Nat → Int32) (H : Heap) (locs : List Loc) (ls : Array Slot), lv_has ls 7 [(0, .ref (g.2.1 50)), (1, .int x1), (2, .int x2), (3, .int x3), (4, .int x4)] → GW g s (mkS σ [] [] [(60, v_layer)] []) H locs → k46 x1 x2 x3 x4 v_layer = some (r, w_layer) → Wg p l e 0 0 s m args below meth c g (some (.int r)) (mkS σ [] [] [(60, w_layer)] []) H locs (F0 m 46 ls [])) (F : Nat) (x1 : Int32) (x2 : Int32) (x3 : Int32) (x4 : Int32) (x5 : Int32) (v_layer : Nat → Int32) (H : Heap) (locs : List Loc) (ls : Array Slot), lv_has ls 7 [(0, .ref (g.2.1 50)), (1, .int x1), (2, .int x2), (3, .int x3), (4, .int x4), (5, .int x5)] → GW g s (mkS σ [] [] [(60, v_layer)] []) H locs → M_wayRound_l58 k46 (σ.1 3203) (σ.2.2.1 54) F x1 x2 x3 x4 x5 v_layer = some (r, w_layer) → Wg p l e 0 0 s m args below meth c g (some (.int r)) (mkS σ [] [] [(60, w_layer)] []) H locs (F0 m 58 ls []) := by
    intro k46 hk46 F
    induction F with
    | zero => intro x1 x2 x3 x4 x5 v_layer H locs ls hl hG h; exact no_some h
    | succ F ih => intro x1 x2 x3 x4 x5 v_layer H locs ls hl hG h; exact n58 k46 hk46 (fun x1 x2 x3 x4 x5 v_layer => M_wayRound_l58 k46 (σ.1 3203) (σ.2.2.1 54) F x1 x2 x3 x4 x5 v_layer) ih x1 x2 x3 x4 x5 v_layer H locs ls hl hG h
  have n162 : ∀ (k35 : Int32 → Int32 → Int32 → (Nat → Int32) → Option (Int32 × (Nat → Int32))) (hk35 : ∀ (x1 : Int32) (x2 : Int32) (x3 : Int32) (v_layer : Nat → Int32) (H : Heap) (locs : List Loc) (ls : Array Slot), lv_has ls 7 [(0, .ref (g.2.1 50)), (1, .int x1), (2, .int x2), (3, .int x3)] → GW g s (mkS σ [] [] [(60, v_layer)] []) H locs → k35 x1 x2 x3 v_layer = some (r, w_layer) → Wg p l e 0 0 s m args below meth c g (some (.int r)) (mkS σ [] [] [(60, w_layer)] []) H locs (F0 m 35 ls [])) (x1 : Int32) (x2 : Int32) (x3 : Int32) (v_layer : Nat → Int32) (H : Heap) (locs : List Loc) (ls : Array Slot), lv_has ls 7 [(0, .ref (g.2.1 50)), (1, .int x1), (2, .int x2), (3, .int x3)] → GW g s (mkS σ [] [] [(60, v_layer)] []) H locs → M_wayRound_n162 k35 x1 x2 x3 v_layer = some (r, w_layer) → Wg p l e 0 0 s m args below meth c g (some (.int r)) (mkS σ [] [] [(60, w_layer)] []) H locs (F0 m 162 ls []) := by
    intro k35 hk35 x1 x2 x3 v_layer H locs ls hl hG h
    unfold M_wayRound_n162 at h
    refine lv_iinc (v := (x3 + (1 : Int32))) (lv' := [(3, .int (x3 + (1 : Int32))), (0, .ref (g.2.1 50)), (1, .int x1), (2, .int x2)]) hx hb dX9_wayRound_162 hl (k := 3) rfl (congrArg (fun z => x3 + z) (by decide)) (Nat.le_of_ble_eq_true rfl) rfl (fun ls hl => ?_)
    refine lv_goto (tgt := 35) hx hb dX9_wayRound_165 (by decide) ?_
    exact hk35 x1 x2 (x3 + (1 : Int32)) v_layer _ _ _ (lv_sub hl [1, 2, 3, 0] rfl) hG h
  have n46 : ∀ (k35 : Int32 → Int32 → Int32 → (Nat → Int32) → Option (Int32 × (Nat → Int32))) (hk35 : ∀ (x1 : Int32) (x2 : Int32) (x3 : Int32) (v_layer : Nat → Int32) (H : Heap) (locs : List Loc) (ls : Array Slot), lv_has ls 7 [(0, .ref (g.2.1 50)), (1, .int x1), (2, .int x2), (3, .int x3)] → GW g s (mkS σ [] [] [(60, v_layer)] []) H locs → k35 x1 x2 x3 v_layer = some (r, w_layer) → Wg p l e 0 0 s m args below meth c g (some (.int r)) (mkS σ [] [] [(60, w_layer)] []) H locs (F0 m 35 ls [])) (k46 : Int32 → Int32 → Int32 → Int32 → (Nat → Int32) → Option (Int32 × (Nat → Int32))) (hk46 : ∀ (x1 : Int32) (x2 : Int32) (x3 : Int32) (x4 : Int32) (v_layer : Nat → Int32) (H : Heap) (locs : List Loc) (ls : Array Slot), lv_has ls 7 [(0, .ref (g.2.1 50)), (1, .int x1), (2, .int x2), (3, .int x3), (4, .int x4)] → GW g s (mkS σ [] [] [(60, v_layer)] []) H locs → k46 x1 x2 x3 x4 v_layer = some (r, w_layer) → Wg p l e 0 0 s m args below meth c g (some (.int r)) (mkS σ [] [] [(60, w_layer)] []) H locs (F0 m 46 ls [])) (x1 : Int32) (x2 : Int32) (x3 : Int32) (x4 : Int32) (v_layer : Nat → Int32) (H : Heap) (locs : List Loc) (ls : Array Slot), lv_has ls 7 [(0, .ref (g.2.1 50)), (1, .int x1), (2, .int x2), (3, .int x3), (4, .int x4)] → GW g s (mkS σ [] [] [(60, v_layer)] []) H locs → M_wayRound_n46 k35 k46 (σ.1 3203) (σ.2.2.1 54) x1 x2 x3 x4 v_layer = some (r, w_layer) → Wg p l e 0 0 s m args below meth c g (some (.int r)) (mkS σ [] [] [(60, w_layer)] []) H locs (F0 m 46 ls []) := by
    intro k35 hk35 k46 hk46 x1 x2 x3 x4 v_layer H locs ls hl hG h
    unfold M_wayRound_n46 at h
    refine lv_iload hx hb dX9_wayRound_46 (lv_at hl 4 rfl) ?_
    refine lv_aload_n hx hb dX9_wayRound_48 rfl (lv_at hl 0 rfl) ?_
    refine gx_get (v := .int (σ.1 3203)) (C := RX9) (T := TX9) (N := 44) hx hb hts hinX9 hown hK hG (ga_50 g _) rfl 3 (by decide) hw1 rfl rfl dX9_wayRound_49 ?_
    refine lv_icmp_ge (tgt := 162) hx hb dX9_wayRound_52 (by decide) (fun c14 => ?_) (fun c14 => ?_)
    · have h := ite_t c14 h
      exact n162 k35 hk35 x1 x2 x3 v_layer _ _ _ (lv_sub hl [0, 1, 2, 3] rfl) hG h
    · have h := ite_f c14 h
      refine lv_iconst (v := (0 : Int32)) hx hb dX9_wayRound_55 (by decide) ?_
      refine lv_istore (lv' := [(5, .int (0 : Int32)), (0, .ref (g.2.1 50)), (1, .int x1), (2, .int x2), (3, .int x3), (4, .int x4)]) hx hb dX9_wayRound_56 hl (Nat.le_of_ble_eq_true rfl) rfl (fun ls hl => ?_)
      exact l58 k46 hk46 FUEL x1 x2 x3 x4 (0 : Int32) v_layer _ _ _ (lv_sub hl [1, 2, 3, 4, 5, 0] rfl) hG h
  have l46 : ∀ (k35 : Int32 → Int32 → Int32 → (Nat → Int32) → Option (Int32 × (Nat → Int32))) (hk35 : ∀ (x1 : Int32) (x2 : Int32) (x3 : Int32) (v_layer : Nat → Int32) (H : Heap) (locs : List Loc) (ls : Array Slot), lv_has ls 7 [(0, .ref (g.2.1 50)), (1, .int x1), (2, .int x2), (3, .int x3)] → GW g s (mkS σ [] [] [(60, v_layer)] []) H locs → k35 x1 x2 x3 v_layer = some (r, w_layer) → Wg p l e 0 0 s m args below meth c g (some (.int r)) (mkS σ [] [] [(60, w_layer)] []) H locs (F0 m 35 ls [])) (F : Nat) (x1 : Int32) (x2 : Int32) (x3 : Int32) (x4 : Int32) (v_layer : Nat → Int32) (H : Heap) (locs : List Loc) (ls : Array Slot), lv_has ls 7 [(0, .ref (g.2.1 50)), (1, .int x1), (2, .int x2), (3, .int x3), (4, .int x4)] → GW g s (mkS σ [] [] [(60, v_layer)] []) H locs → M_wayRound_l46 k35 (σ.1 3203) (σ.2.2.1 54) F x1 x2 x3 x4 v_layer = some (r, w_layer) → Wg p l e 0 0 s m args below meth c g (some (.int r)) (mkS σ [] [] [(60, w_layer)] []) H locs (F0 m 46 ls []) := by
    intro k35 hk35 F
    induction F with
    | zero => intro x1 x2 x3 x4 v_layer H locs ls hl hG h; exact no_some h
    | succ F ih => intro x1 x2 x3 x4 v_layer H locs ls hl hG h; exact n46 k35 hk35 (fun x1 x2 x3 x4 v_layer => M_wayRound_l46 k35 (σ.1 3203) (σ.2.2.1 54) F x1 x2 x3 x4 v_layer) ih x1 x2 x3 x4 v_layer H locs ls hl hG h
  have n168 : ∀ (x2 : Int32) (v_layer : Nat → Int32) (H : Heap) (locs : List Loc) (ls : Array Slot), lv_has ls 7 [(0, .ref (g.2.1 50)), (2, .int x2)] → GW g s (mkS σ [] [] [(60, v_layer)] []) H locs → M_wayRound_n168 x2 v_layer = some (r, w_layer) → Wg p l e 0 0 s m args below meth c g (some (.int r)) (mkS σ [] [] [(60, w_layer)] []) H locs (F0 m 168 ls []) := by
    intro x2 v_layer H locs ls hl hG h
    unfold M_wayRound_n168 at h
    refine lv_aload_n hx hb dX9_wayRound_168 rfl (lv_at hl 0 rfl) ?_
    refine gx_get (v := .ref (g.2.1 60)) (C := RX9) (T := TX9) (N := 44) hx hb hts hinX9 hown hK hG (ga_50 g _) rfl 16 (by decide) hw0 rfl rfl dX9_wayRound_169 ?_
    refine lv_iload_n hx hb dX9_wayRound_172 rfl (lv_at hl 1 rfl) ?_
    obtain ⟨hg15, h⟩ := gd_some h
    refine gx_iald (f := v_layer) hx hb hK hG (ga_60 g _) hg15 dX9_wayRound_173 ?_
    cases h
    exact gx_iret hx hb hr hlocks hG dX9_wayRound_174
  have n35 : ∀ (k35 : Int32 → Int32 → Int32 → (Nat → Int32) → Option (Int32 × (Nat → Int32))) (hk35 : ∀ (x1 : Int32) (x2 : Int32) (x3 : Int32) (v_layer : Nat → Int32) (H : Heap) (locs : List Loc) (ls : Array Slot), lv_has ls 7 [(0, .ref (g.2.1 50)), (1, .int x1), (2, .int x2), (3, .int x3)] → GW g s (mkS σ [] [] [(60, v_layer)] []) H locs → k35 x1 x2 x3 v_layer = some (r, w_layer) → Wg p l e 0 0 s m args below meth c g (some (.int r)) (mkS σ [] [] [(60, w_layer)] []) H locs (F0 m 35 ls [])) (x1 : Int32) (x2 : Int32) (x3 : Int32) (v_layer : Nat → Int32) (H : Heap) (locs : List Loc) (ls : Array Slot), lv_has ls 7 [(0, .ref (g.2.1 50)), (1, .int x1), (2, .int x2), (3, .int x3)] → GW g s (mkS σ [] [] [(60, v_layer)] []) H locs → M_wayRound_n35 k35 (σ.1 3203) (σ.2.2.1 54) x1 x2 x3 v_layer = some (r, w_layer) → Wg p l e 0 0 s m args below meth c g (some (.int r)) (mkS σ [] [] [(60, w_layer)] []) H locs (F0 m 35 ls []) := by
    intro k35 hk35 x1 x2 x3 v_layer H locs ls hl hG h
    unfold M_wayRound_n35 at h
    refine lv_iload_n hx hb dX9_wayRound_35 rfl (lv_at hl 3 rfl) ?_
    refine lv_aload_n hx hb dX9_wayRound_36 rfl (lv_at hl 0 rfl) ?_
    refine gx_get (v := .int (σ.1 3203)) (C := RX9) (T := TX9) (N := 44) hx hb hts hinX9 hown hK hG (ga_50 g _) rfl 3 (by decide) hw1 rfl rfl dX9_wayRound_37 ?_
    refine lv_icmp_ge (tgt := 168) hx hb dX9_wayRound_40 (by decide) (fun c16 => ?_) (fun c16 => ?_)
    · have h := ite_t c16 h
      exact n168 x2 v_layer _ _ _ (lv_sub hl [0, 2] rfl) hG h
    · have h := ite_f c16 h
      refine lv_iconst (v := (0 : Int32)) hx hb dX9_wayRound_43 (by decide) ?_
      refine lv_istore (lv' := [(4, .int (0 : Int32)), (0, .ref (g.2.1 50)), (1, .int x1), (2, .int x2), (3, .int x3)]) hx hb dX9_wayRound_44 hl (Nat.le_of_ble_eq_true rfl) rfl (fun ls hl => ?_)
      exact l46 k35 hk35 FUEL x1 x2 x3 (0 : Int32) v_layer _ _ _ (lv_sub hl [1, 2, 3, 4, 0] rfl) hG h
  have l35 : ∀  (F : Nat) (x1 : Int32) (x2 : Int32) (x3 : Int32) (v_layer : Nat → Int32) (H : Heap) (locs : List Loc) (ls : Array Slot), lv_has ls 7 [(0, .ref (g.2.1 50)), (1, .int x1), (2, .int x2), (3, .int x3)] → GW g s (mkS σ [] [] [(60, v_layer)] []) H locs → M_wayRound_l35 (σ.1 3203) (σ.2.2.1 54) F x1 x2 x3 v_layer = some (r, w_layer) → Wg p l e 0 0 s m args below meth c g (some (.int r)) (mkS σ [] [] [(60, w_layer)] []) H locs (F0 m 35 ls []) := by
    intro F
    induction F with
    | zero => intro x1 x2 x3 v_layer H locs ls hl hG h; exact no_some h
    | succ F ih => intro x1 x2 x3 v_layer H locs ls hl hG h; exact n35 (fun x1 x2 x3 v_layer => M_wayRound_l35 (σ.1 3203) (σ.2.2.1 54) F x1 x2 x3 v_layer) ih x1 x2 x3 v_layer H locs ls hl hG h
  have n33 : ∀ (x1 : Int32) (x2 : Int32) (v_layer : Nat → Int32) (H : Heap) (locs : List Loc) (ls : Array Slot), lv_has ls 7 [(0, .ref (g.2.1 50)), (1, .int x1), (2, .int x2)] → GW g s (mkS σ [] [] [(60, v_layer)] []) H locs → M_wayRound_n33 (σ.1 3203) (σ.2.2.1 54) x1 x2 v_layer = some (r, w_layer) → Wg p l e 0 0 s m args below meth c g (some (.int r)) (mkS σ [] [] [(60, w_layer)] []) H locs (F0 m 33 ls []) := by
    intro x1 x2 v_layer H locs ls hl hG h
    unfold M_wayRound_n33 at h
    refine lv_iconst (v := (0 : Int32)) hx hb dX9_wayRound_33 (by decide) ?_
    refine lv_istore_n (lv' := [(3, .int (0 : Int32)), (0, .ref (g.2.1 50)), (1, .int x1), (2, .int x2)]) hx hb dX9_wayRound_34 rfl hl (Nat.le_of_ble_eq_true rfl) rfl (fun ls hl => ?_)
    exact l35 FUEL x1 x2 (0 : Int32) v_layer _ _ _ (lv_sub hl [1, 2, 3, 0] rfl) hG h
  have n2 : ∀ (k2 : Int32 → Int32 → Int32 → (Nat → Int32) → Option (Int32 × (Nat → Int32))) (hk2 : ∀ (x1 : Int32) (x2 : Int32) (x3 : Int32) (v_layer : Nat → Int32) (H : Heap) (locs : List Loc) (ls : Array Slot), lv_has ls 7 [(0, .ref (g.2.1 50)), (1, .int x1), (2, .int x2), (3, .int x3)] → GW g s (mkS σ [] [] [(60, v_layer)] []) H locs → k2 x1 x2 x3 v_layer = some (r, w_layer) → Wg p l e 0 0 s m args below meth c g (some (.int r)) (mkS σ [] [] [(60, w_layer)] []) H locs (F0 m 2 ls [])) (x1 : Int32) (x2 : Int32) (x3 : Int32) (v_layer : Nat → Int32) (H : Heap) (locs : List Loc) (ls : Array Slot), lv_has ls 7 [(0, .ref (g.2.1 50)), (1, .int x1), (2, .int x2), (3, .int x3)] → GW g s (mkS σ [] [] [(60, v_layer)] []) H locs → M_wayRound_n2 k2 (σ.1 3203) (σ.2.2.1 54) x1 x2 x3 v_layer = some (r, w_layer) → Wg p l e 0 0 s m args below meth c g (some (.int r)) (mkS σ [] [] [(60, w_layer)] []) H locs (F0 m 2 ls []) := by
    intro k2 hk2 x1 x2 x3 v_layer H locs ls hl hG h
    unfold M_wayRound_n2 at h
    refine lv_iload_n hx hb dX9_wayRound_2 rfl (lv_at hl 3 rfl) ?_
    refine lv_aload_n hx hb dX9_wayRound_3 rfl (lv_at hl 0 rfl) ?_
    refine gx_get (v := .int (σ.1 3203)) (C := RX9) (T := TX9) (N := 44) hx hb hts hinX9 hown hK hG (ga_50 g _) rfl 3 (by decide) hw1 rfl rfl dX9_wayRound_4 ?_
    refine lv_icmp_ge (tgt := 33) hx hb dX9_wayRound_7 (by decide) (fun c17 => ?_) (fun c17 => ?_)
    · have h := ite_t c17 h
      exact n33 x1 x2 v_layer _ _ _ (lv_sub hl [0, 1, 2] rfl) hG h
    · have h := ite_f c17 h
      refine lv_aload_n hx hb dX9_wayRound_10 rfl (lv_at hl 0 rfl) ?_
      refine gx_get (v := .ref (g.2.1 60)) (C := RX9) (T := TX9) (N := 44) hx hb hts hinX9 hown hK hG (ga_50 g _) rfl 16 (by decide) hw0 rfl rfl dX9_wayRound_11 ?_
      refine lv_iload_n hx hb dX9_wayRound_14 rfl (lv_at hl 3 rfl) ?_
      refine lv_iload_n hx hb dX9_wayRound_15 rfl (lv_at hl 3 rfl) ?_
      refine lv_iload_n hx hb dX9_wayRound_16 rfl (lv_at hl 1 rfl) ?_
      refine lv_icmp_ne (tgt := 24) hx hb dX9_wayRound_17 (by decide) (fun c18 => ?_) (fun c18 => ?_)
      · have h := ite_f c18 h
        refine lv_bipush (v := (99 : Int32)) hx hb dX9_wayRound_24 (by decide) ?_
        exact n26 k2 hk2 x1 x2 x3 x3 (99 : Int32) v_layer _ _ _ (lv_sub hl [0, 1, 2, 3] rfl) hG h
      · have h := ite_t c18 h
        refine lv_iconst (v := (0 : Int32)) hx hb dX9_wayRound_20 (by decide) ?_
        refine lv_goto (tgt := 26) hx hb dX9_wayRound_21 (by decide) ?_
        exact n26 k2 hk2 x1 x2 x3 x3 (0 : Int32) v_layer _ _ _ (lv_sub hl [0, 1, 2, 3] rfl) hG h
  have l2 : ∀  (F : Nat) (x1 : Int32) (x2 : Int32) (x3 : Int32) (v_layer : Nat → Int32) (H : Heap) (locs : List Loc) (ls : Array Slot), lv_has ls 7 [(0, .ref (g.2.1 50)), (1, .int x1), (2, .int x2), (3, .int x3)] → GW g s (mkS σ [] [] [(60, v_layer)] []) H locs → M_wayRound_l2 (σ.1 3203) (σ.2.2.1 54) F x1 x2 x3 v_layer = some (r, w_layer) → Wg p l e 0 0 s m args below meth c g (some (.int r)) (mkS σ [] [] [(60, w_layer)] []) H locs (F0 m 2 ls []) := by
    intro F
    induction F with
    | zero => intro x1 x2 x3 v_layer H locs ls hl hG h; exact no_some h
    | succ F ih => intro x1 x2 x3 v_layer H locs ls hl hG h; exact n2 (fun x1 x2 x3 v_layer => M_wayRound_l2 (σ.1 3203) (σ.2.2.1 54) F x1 x2 x3 v_layer) ih x1 x2 x3 v_layer H locs ls hl hG h
  refine lv_iconst (v := (0 : Int32)) hx hb dX9_wayRound_0 (by decide) ?_
  refine lv_istore_n (lv' := [(3, .int (0 : Int32)), (0, .ref (g.2.1 50)), (1, .int x1), (2, .int x2)]) hx hb dX9_wayRound_1 rfl hl (Nat.le_of_ble_eq_true rfl) rfl (fun ls hl => ?_)
  exact l2 FUEL x1 x2 (0 : Int32) (σ.2.2.1 60) _ _ _ (lv_sub hl [1, 2, 3, 0] rfl) hG h

set_option maxHeartbeats 4000000 in
set_option maxRecDepth 100000 in
theorem c_M_round (l : Launch) (g : GC) (σ : St) (r : Int32) (w_layer : Nat → Int32) (h : M_round (σ.1 3203) (σ.2.2.1 60) (σ.2.2.1 54) = some (r, w_layer)) : Cn l g yX9_round wsX9_round 1 26 [.ref (g.2.1 50)] σ (some (.int r)) (mkS σ [] [] [(60, w_layer)] []) := by
  unfold Cn
  refine Met.ofW (cc := cX9_round) (maxL := 5) (ret := (some .int)) (by decide) rfl ?_
  intro p e s m args below meth c s₁ B hml hv
  obtain ⟨hargs, hP0, hK⟩ := hv
  have hx := B.exec
  have hb := B.bytes
  have hr := B.returns
  have hts := atoms_spec (ws := wsX9_round) B.pre
  have hown : s.vm.findClass RX9 = some m.cls := findClass_of_methodNamed B.named
  have hlocks := B.notSynchronized
  have hS9 : CallFix p m c cX9_round 5 s args wsX9_round RX9 := ⟨hx, hb, hml, hown, hts⟩
  have hinX9 : ∀ w ∈ wsX90, w ∈ wsX9_round := fun w h => List.mem_cons_of_mem _ (List.mem_append_right _ (h))
  have hw0 := hts (.fieldLink RX9 19 "LikeNetsModel" "road" "[Z") (List.mem_of_getElem? (i := 2) rfl)
  have hw1 := hts (.fieldLink RX9 116 "LikeNetsModel" "posts" "I") (List.mem_of_getElem? (i := 1) rfl)
  have hf9 : entryFrame m args 5 = _ := (congrArg (fun a => entryFrame m a 5) hargs).trans (lg_entry_eq m [.ref (g.2.1 50)] 5)
  show Wg p l e 1 26 s m args below meth c g (some (.int r)) (mkS σ [] [] [(60, w_layer)] []) s.heap [] (entryFrame m args 5)
  rw [hf9]
  have hl := lv_entry ([.ref (g.2.1 50)]) (n := 5) (Nat.le_of_ble_eq_true rfl)
  generalize (lg_sl ([.ref (g.2.1 50)]) ++ List.replicate (5 - (lg_sl ([.ref (g.2.1 50)])).length) Slot.unset).toArray = ls at hl ⊢
  have hl : lv_has ls 5 [(0, .ref (g.2.1 50))] := hl
  have hG : GW g s σ s.heap [] := ⟨hP0, va_S.rf⟩
  have hG : GW g s (mkS σ [] [] [(60, (σ.2.2.1 60))] []) s.heap [] := GW_self [] [] [60] [] hG
  unfold M_round at h
  have n59 : ∀ (k15 : Int32 → Int32 → Int32 → (Nat → Int32) → Option (Int32 × (Nat → Int32))) (hk15 : ∀ (x1 : Int32) (x2 : Int32) (x3 : Int32) (v_layer : Nat → Int32) (H : Heap) (locs : List Loc) (ls : Array Slot), lv_has ls 5 [(0, .ref (g.2.1 50)), (1, .int x1), (2, .int x2), (3, .int x3)] → GW g s (mkS σ [] [] [(60, v_layer)] []) H locs → k15 x1 x2 x3 v_layer = some (r, w_layer) → Wg p l e 1 26 s m args below meth c g (some (.int r)) (mkS σ [] [] [(60, w_layer)] []) H locs (F0 m 15 ls [])) (x1 : Int32) (x2 : Int32) (x3 : Int32) (v_layer : Nat → Int32) (H : Heap) (locs : List Loc) (ls : Array Slot), lv_has ls 5 [(0, .ref (g.2.1 50)), (1, .int x1), (2, .int x2), (3, .int x3)] → GW g s (mkS σ [] [] [(60, v_layer)] []) H locs → M_round_n59 k15 x1 x2 x3 v_layer = some (r, w_layer) → Wg p l e 1 26 s m args below meth c g (some (.int r)) (mkS σ [] [] [(60, w_layer)] []) H locs (F0 m 59 ls []) := by
    intro k15 hk15 x1 x2 x3 v_layer H locs ls hl hG h
    unfold M_round_n59 at h
    refine lv_iinc (v := (x3 + (1 : Int32))) (lv' := [(3, .int (x3 + (1 : Int32))), (0, .ref (g.2.1 50)), (1, .int x1), (2, .int x2)]) hx hb dX9_round_59 hl (k := 3) rfl (congrArg (fun z => x3 + z) (by decide)) (Nat.le_of_ble_eq_true rfl) rfl (fun ls hl => ?_)
    refine lv_goto (tgt := 15) hx hb dX9_round_62 (by decide) ?_
    exact hk15 x1 x2 (x3 + (1 : Int32)) v_layer _ _ _ (lv_sub hl [1, 2, 3, 0] rfl) hG h
  have n58 : ∀ (k15 : Int32 → Int32 → Int32 → (Nat → Int32) → Option (Int32 × (Nat → Int32))) (hk15 : ∀ (x1 : Int32) (x2 : Int32) (x3 : Int32) (v_layer : Nat → Int32) (H : Heap) (locs : List Loc) (ls : Array Slot), lv_has ls 5 [(0, .ref (g.2.1 50)), (1, .int x1), (2, .int x2), (3, .int x3)] → GW g s (mkS σ [] [] [(60, v_layer)] []) H locs → k15 x1 x2 x3 v_layer = some (r, w_layer) → Wg p l e 1 26 s m args below meth c g (some (.int r)) (mkS σ [] [] [(60, w_layer)] []) H locs (F0 m 15 ls [])) (x2 : Int32) (x3 : Int32) (t0 : Int32) (v_layer : Nat → Int32) (H : Heap) (locs : List Loc) (ls : Array Slot), lv_has ls 5 [(0, .ref (g.2.1 50)), (2, .int x2), (3, .int x3)] → GW g s (mkS σ [] [] [(60, v_layer)] []) H locs → M_round_n58 k15 x2 x3 t0 v_layer = some (r, w_layer) → Wg p l e 1 26 s m args below meth c g (some (.int r)) (mkS σ [] [] [(60, w_layer)] []) H locs (F0 m 58 ls [.int t0]) := by
    intro k15 hk15 x2 x3 t0 v_layer H locs ls hl hG h
    unfold M_round_n58 at h
    refine lv_istore_n (lv' := [(1, .int t0), (0, .ref (g.2.1 50)), (2, .int x2), (3, .int x3)]) hx hb dX9_round_58 rfl hl (Nat.le_of_ble_eq_true rfl) rfl (fun ls hl => ?_)
    exact n59 k15 hk15 t0 x2 x3 v_layer _ _ _ (lv_sub hl [1, 0, 2, 3] rfl) hG h
  have n65 : ∀ (k5 : Int32 → Int32 → (Nat → Int32) → Option (Int32 × (Nat → Int32))) (hk5 : ∀ (x1 : Int32) (x2 : Int32) (v_layer : Nat → Int32) (H : Heap) (locs : List Loc) (ls : Array Slot), lv_has ls 5 [(0, .ref (g.2.1 50)), (1, .int x1), (2, .int x2)] → GW g s (mkS σ [] [] [(60, v_layer)] []) H locs → k5 x1 x2 v_layer = some (r, w_layer) → Wg p l e 1 26 s m args below meth c g (some (.int r)) (mkS σ [] [] [(60, w_layer)] []) H locs (F0 m 5 ls [])) (x1 : Int32) (x2 : Int32) (v_layer : Nat → Int32) (H : Heap) (locs : List Loc) (ls : Array Slot), lv_has ls 5 [(0, .ref (g.2.1 50)), (1, .int x1), (2, .int x2)] → GW g s (mkS σ [] [] [(60, v_layer)] []) H locs → M_round_n65 k5 x1 x2 v_layer = some (r, w_layer) → Wg p l e 1 26 s m args below meth c g (some (.int r)) (mkS σ [] [] [(60, w_layer)] []) H locs (F0 m 65 ls []) := by
    intro k5 hk5 x1 x2 v_layer H locs ls hl hG h
    unfold M_round_n65 at h
    refine lv_iinc (v := (x2 + (1 : Int32))) (lv' := [(2, .int (x2 + (1 : Int32))), (0, .ref (g.2.1 50)), (1, .int x1)]) hx hb dX9_round_65 hl (k := 2) rfl (congrArg (fun z => x2 + z) (by decide)) (Nat.le_of_ble_eq_true rfl) rfl (fun ls hl => ?_)
    refine lv_goto (tgt := 5) hx hb dX9_round_68 (by decide) ?_
    exact hk5 x1 (x2 + (1 : Int32)) v_layer _ _ _ (lv_sub hl [1, 2, 0] rfl) hG h
  have n15 : ∀ (k5 : Int32 → Int32 → (Nat → Int32) → Option (Int32 × (Nat → Int32))) (hk5 : ∀ (x1 : Int32) (x2 : Int32) (v_layer : Nat → Int32) (H : Heap) (locs : List Loc) (ls : Array Slot), lv_has ls 5 [(0, .ref (g.2.1 50)), (1, .int x1), (2, .int x2)] → GW g s (mkS σ [] [] [(60, v_layer)] []) H locs → k5 x1 x2 v_layer = some (r, w_layer) → Wg p l e 1 26 s m args below meth c g (some (.int r)) (mkS σ [] [] [(60, w_layer)] []) H locs (F0 m 5 ls [])) (k15 : Int32 → Int32 → Int32 → (Nat → Int32) → Option (Int32 × (Nat → Int32))) (hk15 : ∀ (x1 : Int32) (x2 : Int32) (x3 : Int32) (v_layer : Nat → Int32) (H : Heap) (locs : List Loc) (ls : Array Slot), lv_has ls 5 [(0, .ref (g.2.1 50)), (1, .int x1), (2, .int x2), (3, .int x3)] → GW g s (mkS σ [] [] [(60, v_layer)] []) H locs → k15 x1 x2 x3 v_layer = some (r, w_layer) → Wg p l e 1 26 s m args below meth c g (some (.int r)) (mkS σ [] [] [(60, w_layer)] []) H locs (F0 m 15 ls [])) (x1 : Int32) (x2 : Int32) (x3 : Int32) (v_layer : Nat → Int32) (H : Heap) (locs : List Loc) (ls : Array Slot), lv_has ls 5 [(0, .ref (g.2.1 50)), (1, .int x1), (2, .int x2), (3, .int x3)] → GW g s (mkS σ [] [] [(60, v_layer)] []) H locs → M_round_n15 k5 k15 (σ.1 3203) (σ.2.2.1 54) x1 x2 x3 v_layer = some (r, w_layer) → Wg p l e 1 26 s m args below meth c g (some (.int r)) (mkS σ [] [] [(60, w_layer)] []) H locs (F0 m 15 ls []) := by
    intro k5 hk5 k15 hk15 x1 x2 x3 v_layer H locs ls hl hG h
    unfold M_round_n15 at h
    refine lv_iload_n hx hb dX9_round_15 rfl (lv_at hl 3 rfl) ?_
    refine lv_iload_n hx hb dX9_round_16 rfl (lv_at hl 2 rfl) ?_
    refine lv_icmp_ge (tgt := 65) hx hb dX9_round_17 (by decide) (fun c1 => ?_) (fun c1 => ?_)
    · have h := ite_t c1 h
      exact n65 k5 hk5 x1 x2 v_layer _ _ _ (lv_sub hl [0, 1, 2] rfl) hG h
    · have h := ite_f c1 h
      refine lv_aload_n hx hb dX9_round_20 rfl (lv_at hl 0 rfl) ?_
      refine gx_get (v := .ref (g.2.1 54)) (C := RX9) (T := TX9) (N := 44) hx hb hts hinX9 hown hK hG (ga_50 g _) rfl 4 (by decide) hw0 rfl rfl dX9_round_21 ?_
      refine lv_bipush (v := (32 : Int32)) hx hb dX9_round_24 (by decide) ?_
      refine lv_iload_n hx hb dX9_round_26 rfl (lv_at hl 2 rfl) ?_
      refine lv_imul hx hb dX9_round_27 ?_
      refine lv_iload_n hx hb dX9_round_28 rfl (lv_at hl 3 rfl) ?_
      refine lv_iadd hx hb dX9_round_29 ?_
      obtain ⟨hg2, h⟩ := gd_some h
      refine gx_zald (f := (σ.2.2.1 54)) hx hb hK hG (ga_54 g _) hg2 dX9_round_30 ?_
      refine lv_if_eq (tgt := 59) hx hb dX9_round_31 (by decide) (fun c3 => ?_) (fun c3 => ?_)
      · have h := ite_t c3 h
        exact n59 k15 hk15 x1 x2 x3 v_layer _ _ _ (lv_sub hl [0, 1, 2, 3] rfl) hG h
      · have h := ite_f c3 h
        refine lv_aload_n hx hb dX9_round_34 rfl (lv_at hl 0 rfl) ?_
        refine lv_iload_n hx hb dX9_round_35 rfl (lv_at hl 2 rfl) ?_
        refine lv_iload_n hx hb dX9_round_36 rfl (lv_at hl 3 rfl) ?_
        obtain ⟨z4, hc5, h⟩ := bnd_some h
        refine gx_cV (σ' := (mkS σ [] [] [(60, z4.2)] [])) (r := (some (.int z4.1))) (rest := []) (As := [.int x2, .int x3]) hS9 (c_M_wayRound l g (mkS σ [] [] [(60, v_layer)] []) x2 x3 z4.1 z4.2 hc5) (mk_mk rfl rfl rfl rfl) (cwV 2 hts gX9_round_X9_wayRound rfl rfl rfl (by decide +kernel) ⟨Nat.le_of_ble_eq_true rfl, Nat.le_of_ble_eq_true rfl⟩) hK hG (ga_50 g _) rfl rfl rfl hl.1 rfl (Nat.le_of_ble_eq_true rfl) dX9_round_37 (fun H locs hG => ?_)
        refine W.eq (g2 := F0 m 40 ls [.int z4.1]) rfl ?_
        refine lv_istore (lv' := [(4, .int z4.1), (0, .ref (g.2.1 50)), (1, .int x1), (2, .int x2), (3, .int x3)]) hx hb dX9_round_40 hl (Nat.le_of_ble_eq_true rfl) rfl (fun ls hl => ?_)
        refine lv_iload hx hb dX9_round_42 (lv_at hl 0 rfl) ?_
        refine lv_iconst (v := (1 : Int32)) hx hb dX9_round_44 (by decide) ?_
        refine lv_iadd hx hb dX9_round_45 ?_
        refine lv_iload_n hx hb dX9_round_46 rfl (lv_at hl 2 rfl) ?_
        refine lv_icmp_ge (tgt := 57) hx hb dX9_round_47 (by decide) (fun c6 => ?_) (fun c6 => ?_)
        · have h := ite_t c6 h
          refine lv_iload_n hx hb dX9_round_57 rfl (lv_at hl 2 rfl) ?_
          exact n58 k15 hk15 x2 x3 x1 z4.2 _ _ _ (lv_sub hl [1, 3, 4] rfl) hG h
        · have h := ite_f c6 h
          refine lv_iload hx hb dX9_round_50 (lv_at hl 0 rfl) ?_
          refine lv_iconst (v := (1 : Int32)) hx hb dX9_round_52 (by decide) ?_
          refine lv_iadd hx hb dX9_round_53 ?_
          refine lv_goto (tgt := 58) hx hb dX9_round_54 (by decide) ?_
          exact n58 k15 hk15 x2 x3 (z4.1 + (1 : Int32)) z4.2 _ _ _ (lv_sub hl [1, 3, 4] rfl) hG h
  have l15 : ∀ (k5 : Int32 → Int32 → (Nat → Int32) → Option (Int32 × (Nat → Int32))) (hk5 : ∀ (x1 : Int32) (x2 : Int32) (v_layer : Nat → Int32) (H : Heap) (locs : List Loc) (ls : Array Slot), lv_has ls 5 [(0, .ref (g.2.1 50)), (1, .int x1), (2, .int x2)] → GW g s (mkS σ [] [] [(60, v_layer)] []) H locs → k5 x1 x2 v_layer = some (r, w_layer) → Wg p l e 1 26 s m args below meth c g (some (.int r)) (mkS σ [] [] [(60, w_layer)] []) H locs (F0 m 5 ls [])) (F : Nat) (x1 : Int32) (x2 : Int32) (x3 : Int32) (v_layer : Nat → Int32) (H : Heap) (locs : List Loc) (ls : Array Slot), lv_has ls 5 [(0, .ref (g.2.1 50)), (1, .int x1), (2, .int x2), (3, .int x3)] → GW g s (mkS σ [] [] [(60, v_layer)] []) H locs → M_round_l15 k5 (σ.1 3203) (σ.2.2.1 54) F x1 x2 x3 v_layer = some (r, w_layer) → Wg p l e 1 26 s m args below meth c g (some (.int r)) (mkS σ [] [] [(60, w_layer)] []) H locs (F0 m 15 ls []) := by
    intro k5 hk5 F
    induction F with
    | zero => intro x1 x2 x3 v_layer H locs ls hl hG h; exact no_some h
    | succ F ih => intro x1 x2 x3 v_layer H locs ls hl hG h; exact n15 k5 hk5 (fun x1 x2 x3 v_layer => M_round_l15 k5 (σ.1 3203) (σ.2.2.1 54) F x1 x2 x3 v_layer) ih x1 x2 x3 v_layer H locs ls hl hG h
  have n82 : ∀ (t0 : Int32) (v_layer : Nat → Int32) (H : Heap) (locs : List Loc) (ls : Array Slot), lv_has ls 5 [] → GW g s (mkS σ [] [] [(60, v_layer)] []) H locs → M_round_n82 t0 v_layer = some (r, w_layer) → Wg p l e 1 26 s m args below meth c g (some (.int r)) (mkS σ [] [] [(60, w_layer)] []) H locs (F0 m 82 ls [.int t0]) := by
    intro t0 v_layer H locs ls hl hG h
    unfold M_round_n82 at h
    cases h
    exact gx_iret hx hb hr hlocks hG dX9_round_82
  have n71 : ∀ (x1 : Int32) (v_layer : Nat → Int32) (H : Heap) (locs : List Loc) (ls : Array Slot), lv_has ls 5 [(1, .int x1)] → GW g s (mkS σ [] [] [(60, v_layer)] []) H locs → M_round_n71 x1 v_layer = some (r, w_layer) → Wg p l e 1 26 s m args below meth c g (some (.int r)) (mkS σ [] [] [(60, w_layer)] []) H locs (F0 m 71 ls []) := by
    intro x1 v_layer H locs ls hl hG h
    unfold M_round_n71 at h
    refine lv_iload_n hx hb dX9_round_71 rfl (lv_at hl 0 rfl) ?_
    refine lv_bipush (v := (99 : Int32)) hx hb dX9_round_72 (by decide) ?_
    refine lv_icmp_ne (tgt := 81) hx hb dX9_round_74 (by decide) (fun c7 => ?_) (fun c7 => ?_)
    · have h := ite_f c7 h
      refine lv_iload_n hx hb dX9_round_81 rfl (lv_at hl 0 rfl) ?_
      exact n82 x1 v_layer _ _ _ (lv_sub hl [] rfl) hG h
    · have h := ite_t c7 h
      refine lv_iconst (v := (0 : Int32)) hx hb dX9_round_77 (by decide) ?_
      refine lv_goto (tgt := 82) hx hb dX9_round_78 (by decide) ?_
      exact n82 (0 : Int32) v_layer _ _ _ (lv_sub hl [] rfl) hG h
  have n5 : ∀ (k5 : Int32 → Int32 → (Nat → Int32) → Option (Int32 × (Nat → Int32))) (hk5 : ∀ (x1 : Int32) (x2 : Int32) (v_layer : Nat → Int32) (H : Heap) (locs : List Loc) (ls : Array Slot), lv_has ls 5 [(0, .ref (g.2.1 50)), (1, .int x1), (2, .int x2)] → GW g s (mkS σ [] [] [(60, v_layer)] []) H locs → k5 x1 x2 v_layer = some (r, w_layer) → Wg p l e 1 26 s m args below meth c g (some (.int r)) (mkS σ [] [] [(60, w_layer)] []) H locs (F0 m 5 ls [])) (x1 : Int32) (x2 : Int32) (v_layer : Nat → Int32) (H : Heap) (locs : List Loc) (ls : Array Slot), lv_has ls 5 [(0, .ref (g.2.1 50)), (1, .int x1), (2, .int x2)] → GW g s (mkS σ [] [] [(60, v_layer)] []) H locs → M_round_n5 k5 (σ.1 3203) (σ.2.2.1 54) x1 x2 v_layer = some (r, w_layer) → Wg p l e 1 26 s m args below meth c g (some (.int r)) (mkS σ [] [] [(60, w_layer)] []) H locs (F0 m 5 ls []) := by
    intro k5 hk5 x1 x2 v_layer H locs ls hl hG h
    unfold M_round_n5 at h
    refine lv_iload_n hx hb dX9_round_5 rfl (lv_at hl 2 rfl) ?_
    refine lv_aload_n hx hb dX9_round_6 rfl (lv_at hl 0 rfl) ?_
    refine gx_get (v := .int (σ.1 3203)) (C := RX9) (T := TX9) (N := 44) hx hb hts hinX9 hown hK hG (ga_50 g _) rfl 3 (by decide) hw1 rfl rfl dX9_round_7 ?_
    refine lv_icmp_ge (tgt := 71) hx hb dX9_round_10 (by decide) (fun c8 => ?_) (fun c8 => ?_)
    · have h := ite_t c8 h
      exact n71 x1 v_layer _ _ _ (lv_sub hl [1] rfl) hG h
    · have h := ite_f c8 h
      refine lv_iconst (v := (0 : Int32)) hx hb dX9_round_13 (by decide) ?_
      refine lv_istore_n (lv' := [(3, .int (0 : Int32)), (0, .ref (g.2.1 50)), (1, .int x1), (2, .int x2)]) hx hb dX9_round_14 rfl hl (Nat.le_of_ble_eq_true rfl) rfl (fun ls hl => ?_)
      exact l15 k5 hk5 FUEL x1 x2 (0 : Int32) v_layer _ _ _ (lv_sub hl [1, 2, 3, 0] rfl) hG h
  have l5 : ∀  (F : Nat) (x1 : Int32) (x2 : Int32) (v_layer : Nat → Int32) (H : Heap) (locs : List Loc) (ls : Array Slot), lv_has ls 5 [(0, .ref (g.2.1 50)), (1, .int x1), (2, .int x2)] → GW g s (mkS σ [] [] [(60, v_layer)] []) H locs → M_round_l5 (σ.1 3203) (σ.2.2.1 54) F x1 x2 v_layer = some (r, w_layer) → Wg p l e 1 26 s m args below meth c g (some (.int r)) (mkS σ [] [] [(60, w_layer)] []) H locs (F0 m 5 ls []) := by
    intro F
    induction F with
    | zero => intro x1 x2 v_layer H locs ls hl hG h; exact no_some h
    | succ F ih => intro x1 x2 v_layer H locs ls hl hG h; exact n5 (fun x1 x2 v_layer => M_round_l5 (σ.1 3203) (σ.2.2.1 54) F x1 x2 v_layer) ih x1 x2 v_layer H locs ls hl hG h
  refine lv_bipush (v := (99 : Int32)) hx hb dX9_round_0 (by decide) ?_
  refine lv_istore_n (lv' := [(1, .int (99 : Int32)), (0, .ref (g.2.1 50))]) hx hb dX9_round_2 rfl hl (Nat.le_of_ble_eq_true rfl) rfl (fun ls hl => ?_)
  refine lv_iconst (v := (0 : Int32)) hx hb dX9_round_3 (by decide) ?_
  refine lv_istore_n (lv' := [(2, .int (0 : Int32)), (1, .int (99 : Int32)), (0, .ref (g.2.1 50))]) hx hb dX9_round_4 rfl hl (Nat.le_of_ble_eq_true rfl) rfl (fun ls hl => ?_)
  exact l5 FUEL (99 : Int32) (0 : Int32) (σ.2.2.1 60) _ _ _ (lv_sub hl [2, 1, 0] rfl) hG h

set_option maxHeartbeats 4000000 in
set_option maxRecDepth 100000 in
theorem c_M_many (l : Launch) (g : GC) (σ : St) (x1 : Int32) (r : Int32) (w_clashP : Int32) (w_clashQ : Int32) (w_far : Int32) (w_heaps : Int32) (w_isMeasured : Int32) (w_isTold : Nat → Int32) (w_layer : Nat → Int32) (w_tableA : Nat → Int32) (w_tableB : Nat → Int32) (w_tableC : Nat → Int32) (w_wayOf : Nat → Int32) (h : M_many x1 (σ.1 3221) (σ.1 3222) (σ.1 3214) (σ.1 3215) (σ.1 3212) (σ.1 3203) (σ.2.2.1 64) (σ.2.2.1 60) (σ.2.2.1 54) (σ.2.2.1 62) (σ.2.2.1 63) (σ.2.2.1 61) (σ.2.2.1 59) = some (r, w_clashP, w_clashQ, w_far, w_heaps, w_isMeasured, w_isTold, w_layer, w_tableA, w_tableB, w_tableC, w_wayOf)) : Cn l g yX9_many wsX9_many 4 93 [.ref (g.2.1 50), .int x1] σ (some (.int r)) (mkS σ [(3221, w_clashP), (3222, w_clashQ), (3214, w_far), (3215, w_heaps), (3212, w_isMeasured)] [] [(64, w_isTold), (60, w_layer), (62, w_tableA), (63, w_tableB), (61, w_tableC), (59, w_wayOf)] []) := by
  unfold Cn
  refine Met.ofW (cc := cX9_many) (maxL := 2) (ret := (some .int)) (by decide) rfl ?_
  intro p e s m args below meth c s₁ B hml hv
  obtain ⟨hargs, hP0, hK⟩ := hv
  have hx := B.exec
  have hb := B.bytes
  have hr := B.returns
  have hts := atoms_spec (ws := wsX9_many) B.pre
  have hown : s.vm.findClass RX9 = some m.cls := findClass_of_methodNamed B.named
  have hlocks := B.notSynchronized
  have hS9 : CallFix p m c cX9_many 2 s args wsX9_many RX9 := ⟨hx, hb, hml, hown, hts⟩
  have hinX9 : ∀ w ∈ wsX90, w ∈ wsX9_many := fun w h => List.mem_cons_of_mem _ (List.mem_append_right _ (h))
  have hw0 := hts (.fieldLink RX9 116 "LikeNetsModel" "posts" "I") (List.mem_of_getElem? (i := 1) rfl)
  have hw1 := hts (.fieldLink RX9 180 "LikeNetsModel" "heaps" "I") (List.mem_of_getElem? (i := 2) rfl)
  have hw2 := hts (.fieldLink RX9 177 "LikeNetsModel" "far" "I") (List.mem_of_getElem? (i := 3) rfl)
  have hf9 : entryFrame m args 2 = _ := (congrArg (fun a => entryFrame m a 2) hargs).trans (lg_entry_eq m [.ref (g.2.1 50), .int x1] 2)
  show Wg p l e 4 93 s m args below meth c g (some (.int r)) (mkS σ [(3221, w_clashP), (3222, w_clashQ), (3214, w_far), (3215, w_heaps), (3212, w_isMeasured)] [] [(64, w_isTold), (60, w_layer), (62, w_tableA), (63, w_tableB), (61, w_tableC), (59, w_wayOf)] []) s.heap [] (entryFrame m args 2)
  rw [hf9]
  have hl := lv_entry ([.ref (g.2.1 50), .int x1]) (n := 2) (Nat.le_of_ble_eq_true rfl)
  generalize (lg_sl ([.ref (g.2.1 50), .int x1]) ++ List.replicate (2 - (lg_sl ([.ref (g.2.1 50), .int x1])).length) Slot.unset).toArray = ls at hl ⊢
  have hl : lv_has ls 2 [(0, .ref (g.2.1 50)), (1, .int x1)] := hl
  have hG : GW g s σ s.heap [] := ⟨hP0, va_S.rf⟩
  have hG : GW g s (mkS σ [(3221, (σ.1 3221)), (3222, (σ.1 3222)), (3214, (σ.1 3214)), (3215, (σ.1 3215)), (3212, (σ.1 3212))] [] [(64, (σ.2.2.1 64)), (60, (σ.2.2.1 60)), (62, (σ.2.2.1 62)), (63, (σ.2.2.1 63)), (61, (σ.2.2.1 61)), (59, (σ.2.2.1 59))] []) s.heap [] := GW_self [3221, 3222, 3214, 3215, 3212] [] [64, 60, 62, 63, 61, 59] [] hG
  unfold M_many at h
  have n88 : ∀ (t0 : Int32) (v_clashP : Int32) (v_clashQ : Int32) (v_far : Int32) (v_heaps : Int32) (v_isMeasured : Int32) (v_isTold : Nat → Int32) (v_layer : Nat → Int32) (v_tableA : Nat → Int32) (v_tableB : Nat → Int32) (v_tableC : Nat → Int32) (v_wayOf : Nat → Int32) (H : Heap) (locs : List Loc) (ls : Array Slot), lv_has ls 2 [] → GW g s (mkS σ [(3221, v_clashP), (3222, v_clashQ), (3214, v_far), (3215, v_heaps), (3212, v_isMeasured)] [] [(64, v_isTold), (60, v_layer), (62, v_tableA), (63, v_tableB), (61, v_tableC), (59, v_wayOf)] []) H locs → M_many_n88 t0 v_clashP v_clashQ v_far v_heaps v_isMeasured v_isTold v_layer v_tableA v_tableB v_tableC v_wayOf = some (r, w_clashP, w_clashQ, w_far, w_heaps, w_isMeasured, w_isTold, w_layer, w_tableA, w_tableB, w_tableC, w_wayOf) → Wg p l e 4 93 s m args below meth c g (some (.int r)) (mkS σ [(3221, w_clashP), (3222, w_clashQ), (3214, w_far), (3215, w_heaps), (3212, w_isMeasured)] [] [(64, w_isTold), (60, w_layer), (62, w_tableA), (63, w_tableB), (61, w_tableC), (59, w_wayOf)] []) H locs (F0 m 88 ls [.int t0]) := by
    intro t0 v_clashP v_clashQ v_far v_heaps v_isMeasured v_isTold v_layer v_tableA v_tableB v_tableC v_wayOf H locs ls hl hG h
    unfold M_many_n88 at h
    cases h
    exact gx_iret hx hb hr hlocks hG dX9_many_88
  have n105 : ∀ (t0 : Int32) (v_clashP : Int32) (v_clashQ : Int32) (v_far : Int32) (v_heaps : Int32) (v_isMeasured : Int32) (v_isTold : Nat → Int32) (v_layer : Nat → Int32) (v_tableA : Nat → Int32) (v_tableB : Nat → Int32) (v_tableC : Nat → Int32) (v_wayOf : Nat → Int32) (H : Heap) (locs : List Loc) (ls : Array Slot), lv_has ls 2 [] → GW g s (mkS σ [(3221, v_clashP), (3222, v_clashQ), (3214, v_far), (3215, v_heaps), (3212, v_isMeasured)] [] [(64, v_isTold), (60, v_layer), (62, v_tableA), (63, v_tableB), (61, v_tableC), (59, v_wayOf)] []) H locs → M_many_n105 t0 v_clashP v_clashQ v_far v_heaps v_isMeasured v_isTold v_layer v_tableA v_tableB v_tableC v_wayOf = some (r, w_clashP, w_clashQ, w_far, w_heaps, w_isMeasured, w_isTold, w_layer, w_tableA, w_tableB, w_tableC, w_wayOf) → Wg p l e 4 93 s m args below meth c g (some (.int r)) (mkS σ [(3221, w_clashP), (3222, w_clashQ), (3214, w_far), (3215, w_heaps), (3212, w_isMeasured)] [] [(64, w_isTold), (60, w_layer), (62, w_tableA), (63, w_tableB), (61, w_tableC), (59, w_wayOf)] []) H locs (F0 m 105 ls [.int t0]) := by
    intro t0 v_clashP v_clashQ v_far v_heaps v_isMeasured v_isTold v_layer v_tableA v_tableB v_tableC v_wayOf H locs ls hl hG h
    unfold M_many_n105 at h
    cases h
    exact gx_iret hx hb hr hlocks hG dX9_many_105
  have n123 : ∀ (t0 : Int32) (v_clashP : Int32) (v_clashQ : Int32) (v_far : Int32) (v_heaps : Int32) (v_isMeasured : Int32) (v_isTold : Nat → Int32) (v_layer : Nat → Int32) (v_tableA : Nat → Int32) (v_tableB : Nat → Int32) (v_tableC : Nat → Int32) (v_wayOf : Nat → Int32) (H : Heap) (locs : List Loc) (ls : Array Slot), lv_has ls 2 [] → GW g s (mkS σ [(3221, v_clashP), (3222, v_clashQ), (3214, v_far), (3215, v_heaps), (3212, v_isMeasured)] [] [(64, v_isTold), (60, v_layer), (62, v_tableA), (63, v_tableB), (61, v_tableC), (59, v_wayOf)] []) H locs → M_many_n123 t0 v_clashP v_clashQ v_far v_heaps v_isMeasured v_isTold v_layer v_tableA v_tableB v_tableC v_wayOf = some (r, w_clashP, w_clashQ, w_far, w_heaps, w_isMeasured, w_isTold, w_layer, w_tableA, w_tableB, w_tableC, w_wayOf) → Wg p l e 4 93 s m args below meth c g (some (.int r)) (mkS σ [(3221, w_clashP), (3222, w_clashQ), (3214, w_far), (3215, w_heaps), (3212, w_isMeasured)] [] [(64, w_isTold), (60, w_layer), (62, w_tableA), (63, w_tableB), (61, w_tableC), (59, w_wayOf)] []) H locs (F0 m 123 ls [.int t0]) := by
    intro t0 v_clashP v_clashQ v_far v_heaps v_isMeasured v_isTold v_layer v_tableA v_tableB v_tableC v_wayOf H locs ls hl hG h
    unfold M_many_n123 at h
    cases h
    exact gx_iret hx hb hr hlocks hG dX9_many_123
  have n136 : ∀ (t0 : Int32) (v_clashP : Int32) (v_clashQ : Int32) (v_far : Int32) (v_heaps : Int32) (v_isMeasured : Int32) (v_isTold : Nat → Int32) (v_layer : Nat → Int32) (v_tableA : Nat → Int32) (v_tableB : Nat → Int32) (v_tableC : Nat → Int32) (v_wayOf : Nat → Int32) (H : Heap) (locs : List Loc) (ls : Array Slot), lv_has ls 2 [] → GW g s (mkS σ [(3221, v_clashP), (3222, v_clashQ), (3214, v_far), (3215, v_heaps), (3212, v_isMeasured)] [] [(64, v_isTold), (60, v_layer), (62, v_tableA), (63, v_tableB), (61, v_tableC), (59, v_wayOf)] []) H locs → M_many_n136 t0 v_clashP v_clashQ v_far v_heaps v_isMeasured v_isTold v_layer v_tableA v_tableB v_tableC v_wayOf = some (r, w_clashP, w_clashQ, w_far, w_heaps, w_isMeasured, w_isTold, w_layer, w_tableA, w_tableB, w_tableC, w_wayOf) → Wg p l e 4 93 s m args below meth c g (some (.int r)) (mkS σ [(3221, w_clashP), (3222, w_clashQ), (3214, w_far), (3215, w_heaps), (3212, w_isMeasured)] [] [(64, w_isTold), (60, w_layer), (62, w_tableA), (63, w_tableB), (61, w_tableC), (59, w_wayOf)] []) H locs (F0 m 136 ls [.int t0]) := by
    intro t0 v_clashP v_clashQ v_far v_heaps v_isMeasured v_isTold v_layer v_tableA v_tableB v_tableC v_wayOf H locs ls hl hG h
    unfold M_many_n136 at h
    cases h
    exact gx_iret hx hb hr hlocks hG dX9_many_136
  have n149 : ∀ (t0 : Int32) (v_clashP : Int32) (v_clashQ : Int32) (v_far : Int32) (v_heaps : Int32) (v_isMeasured : Int32) (v_isTold : Nat → Int32) (v_layer : Nat → Int32) (v_tableA : Nat → Int32) (v_tableB : Nat → Int32) (v_tableC : Nat → Int32) (v_wayOf : Nat → Int32) (H : Heap) (locs : List Loc) (ls : Array Slot), lv_has ls 2 [] → GW g s (mkS σ [(3221, v_clashP), (3222, v_clashQ), (3214, v_far), (3215, v_heaps), (3212, v_isMeasured)] [] [(64, v_isTold), (60, v_layer), (62, v_tableA), (63, v_tableB), (61, v_tableC), (59, v_wayOf)] []) H locs → M_many_n149 t0 v_clashP v_clashQ v_far v_heaps v_isMeasured v_isTold v_layer v_tableA v_tableB v_tableC v_wayOf = some (r, w_clashP, w_clashQ, w_far, w_heaps, w_isMeasured, w_isTold, w_layer, w_tableA, w_tableB, w_tableC, w_wayOf) → Wg p l e 4 93 s m args below meth c g (some (.int r)) (mkS σ [(3221, w_clashP), (3222, w_clashQ), (3214, w_far), (3215, w_heaps), (3212, w_isMeasured)] [] [(64, w_isTold), (60, w_layer), (62, w_tableA), (63, w_tableB), (61, w_tableC), (59, w_wayOf)] []) H locs (F0 m 149 ls [.int t0]) := by
    intro t0 v_clashP v_clashQ v_far v_heaps v_isMeasured v_isTold v_layer v_tableA v_tableB v_tableC v_wayOf H locs ls hl hG h
    unfold M_many_n149 at h
    cases h
    exact gx_iret hx hb hr hlocks hG dX9_many_149
  have n162 : ∀ (t0 : Int32) (v_clashP : Int32) (v_clashQ : Int32) (v_far : Int32) (v_heaps : Int32) (v_isMeasured : Int32) (v_isTold : Nat → Int32) (v_layer : Nat → Int32) (v_tableA : Nat → Int32) (v_tableB : Nat → Int32) (v_tableC : Nat → Int32) (v_wayOf : Nat → Int32) (H : Heap) (locs : List Loc) (ls : Array Slot), lv_has ls 2 [] → GW g s (mkS σ [(3221, v_clashP), (3222, v_clashQ), (3214, v_far), (3215, v_heaps), (3212, v_isMeasured)] [] [(64, v_isTold), (60, v_layer), (62, v_tableA), (63, v_tableB), (61, v_tableC), (59, v_wayOf)] []) H locs → M_many_n162 t0 v_clashP v_clashQ v_far v_heaps v_isMeasured v_isTold v_layer v_tableA v_tableB v_tableC v_wayOf = some (r, w_clashP, w_clashQ, w_far, w_heaps, w_isMeasured, w_isTold, w_layer, w_tableA, w_tableB, w_tableC, w_wayOf) → Wg p l e 4 93 s m args below meth c g (some (.int r)) (mkS σ [(3221, w_clashP), (3222, w_clashQ), (3214, w_far), (3215, w_heaps), (3212, w_isMeasured)] [] [(64, w_isTold), (60, w_layer), (62, w_tableA), (63, w_tableB), (61, w_tableC), (59, w_wayOf)] []) H locs (F0 m 162 ls [.int t0]) := by
    intro t0 v_clashP v_clashQ v_far v_heaps v_isMeasured v_isTold v_layer v_tableA v_tableB v_tableC v_wayOf H locs ls hl hG h
    unfold M_many_n162 at h
    cases h
    exact gx_iret hx hb hr hlocks hG dX9_many_162
  refine lv_aload_n hx hb dX9_many_0 rfl (lv_at hl 0 rfl) ?_
  obtain ⟨z1, hc2, h⟩ := bnd_some h
  refine gx_cV (σ' := (mkS σ [(3221, (σ.1 3221)), (3222, (σ.1 3222)), (3214, z1.1), (3215, z1.2.1), (3212, z1.2.2.1)] [] [(64, (σ.2.2.1 64)), (60, (σ.2.2.1 60)), (62, (σ.2.2.1 62)), (63, (σ.2.2.1 63)), (61, (σ.2.2.1 61)), (59, z1.2.2.2)] [])) (r := none) (rest := []) (As := []) hS9 (c_M_measure l g (mkS σ [(3221, (σ.1 3221)), (3222, (σ.1 3222)), (3214, (σ.1 3214)), (3215, (σ.1 3215)), (3212, (σ.1 3212))] [] [(64, (σ.2.2.1 64)), (60, (σ.2.2.1 60)), (62, (σ.2.2.1 62)), (63, (σ.2.2.1 63)), (61, (σ.2.2.1 61)), (59, (σ.2.2.1 59))] []) z1.1 z1.2.1 z1.2.2.1 z1.2.2.2 hc2) (mk_mk rfl rfl rfl rfl) (cwV 0 hts gX9_many_X9_measure rfl rfl rfl (by decide +kernel) ⟨Nat.le_of_ble_eq_true rfl, Nat.le_of_ble_eq_true rfl⟩) hK hG (ga_50 g _) rfl rfl rfl hl.1 rfl (Nat.le_of_ble_eq_true rfl) dX9_many_1 (fun H locs hG => ?_)
  refine W.eq (g2 := F0 m 4 ls []) rfl ?_
  refine lv_iload_n hx hb dX9_many_4 rfl (lv_at hl 1 rfl) ?_
  by_cases c3 : x1 = (0 : Int32)
  · have h := ite_t c3 h
    refine lv_tableIn (off := 55) (tgt := 60) hx hb dX9_many_5 (by rw [c3]; decide) (by rw [c3]; decide) (by rw [c3]; rfl) (by decide) ?_
    refine lv_aload_n hx hb dX9_many_60 rfl (lv_at hl 0 rfl) ?_
    refine gx_get (v := .int (σ.1 3203)) (C := RX9) (T := TX9) (N := 44) hx hb hts hinX9 hown hK hG (ga_50 g _) rfl 3 (by decide) hw0 rfl rfl dX9_many_61 ?_
    cases h
    exact gx_iret hx hb hr hlocks hG dX9_many_64
  · have h := ite_f c3 h
    by_cases c4 : x1 = (1 : Int32)
    · have h := ite_t c4 h
      refine lv_tableIn (off := 60) (tgt := 65) hx hb dX9_many_5 (by rw [c4]; decide) (by rw [c4]; decide) (by rw [c4]; rfl) (by decide) ?_
      refine lv_aload_n hx hb dX9_many_65 rfl (lv_at hl 0 rfl) ?_
      obtain ⟨z5, hc6, h⟩ := bnd_some h
      refine gx_cV (σ' := (mkS σ [(3221, (σ.1 3221)), (3222, (σ.1 3222)), (3214, z1.1), (3215, z1.2.1), (3212, z1.2.2.1)] [] [(64, (σ.2.2.1 64)), (60, (σ.2.2.1 60)), (62, (σ.2.2.1 62)), (63, (σ.2.2.1 63)), (61, (σ.2.2.1 61)), (59, z1.2.2.2)] [])) (r := (some (.int z5))) (rest := []) (As := []) hS9 (c_M_roads l g (mkS σ [(3221, (σ.1 3221)), (3222, (σ.1 3222)), (3214, z1.1), (3215, z1.2.1), (3212, z1.2.2.1)] [] [(64, (σ.2.2.1 64)), (60, (σ.2.2.1 60)), (62, (σ.2.2.1 62)), (63, (σ.2.2.1 63)), (61, (σ.2.2.1 61)), (59, z1.2.2.2)] []) z5 hc6) rfl (cwV 0 hts gX9_many_X9_roads rfl rfl rfl (by decide +kernel) ⟨Nat.le_of_ble_eq_true rfl, Nat.le_of_ble_eq_true rfl⟩) hK hG (ga_50 g _) rfl rfl rfl hl.1 rfl (Nat.le_of_ble_eq_true rfl) dX9_many_66 (fun H locs hG => ?_)
      refine W.eq (g2 := F0 m 69 ls [.int z5]) rfl ?_
      cases h
      exact gx_iret hx hb hr hlocks hG dX9_many_69
    · have h := ite_f c4 h
      by_cases c7 : x1 = (2 : Int32)
      · have h := ite_t c7 h
        refine lv_tableIn (off := 65) (tgt := 70) hx hb dX9_many_5 (by rw [c7]; decide) (by rw [c7]; decide) (by rw [c7]; rfl) (by decide) ?_
        refine lv_aload_n hx hb dX9_many_70 rfl (lv_at hl 0 rfl) ?_
        refine gx_get (v := .int z1.2.1) (C := RX9) (T := TX9) (N := 44) hx hb hts hinX9 hown hK hG (ga_50 g _) rfl 15 (by decide) hw1 rfl rfl dX9_many_71 ?_
        cases h
        exact gx_iret hx hb hr hlocks hG dX9_many_74
      · have h := ite_f c7 h
        by_cases c8 : x1 = (3 : Int32)
        · have h := ite_t c8 h
          refine lv_tableIn (off := 70) (tgt := 75) hx hb dX9_many_5 (by rw [c8]; decide) (by rw [c8]; decide) (by rw [c8]; rfl) (by decide) ?_
          refine lv_aload_n hx hb dX9_many_75 rfl (lv_at hl 0 rfl) ?_
          refine gx_get (v := .int z1.2.1) (C := RX9) (T := TX9) (N := 44) hx hb hts hinX9 hown hK hG (ga_50 g _) rfl 15 (by decide) hw1 rfl rfl dX9_many_76 ?_
          refine lv_iconst (v := (1 : Int32)) hx hb dX9_many_79 (by decide) ?_
          refine lv_icmp_ne (tgt := 87) hx hb dX9_many_80 (by decide) (fun c9 => ?_) (fun c9 => ?_)
          · have h := ite_f c9 h
            refine lv_iconst (v := (0 : Int32)) hx hb dX9_many_87 (by decide) ?_
            exact n88 (0 : Int32) (σ.1 3221) (σ.1 3222) z1.1 z1.2.1 z1.2.2.1 (σ.2.2.1 64) (σ.2.2.1 60) (σ.2.2.1 62) (σ.2.2.1 63) (σ.2.2.1 61) z1.2.2.2 _ _ _ (lv_sub hl [] rfl) hG h
          · have h := ite_t c9 h
            refine lv_iconst (v := (1 : Int32)) hx hb dX9_many_83 (by decide) ?_
            refine lv_goto (tgt := 88) hx hb dX9_many_84 (by decide) ?_
            exact n88 (1 : Int32) (σ.1 3221) (σ.1 3222) z1.1 z1.2.1 z1.2.2.1 (σ.2.2.1 64) (σ.2.2.1 60) (σ.2.2.1 62) (σ.2.2.1 63) (σ.2.2.1 61) z1.2.2.2 _ _ _ (lv_sub hl [] rfl) hG h
        · have h := ite_f c8 h
          by_cases c10 : x1 = (4 : Int32)
          · have h := ite_t c10 h
            refine lv_tableIn (off := 84) (tgt := 89) hx hb dX9_many_5 (by rw [c10]; decide) (by rw [c10]; decide) (by rw [c10]; rfl) (by decide) ?_
            refine lv_aload_n hx hb dX9_many_89 rfl (lv_at hl 0 rfl) ?_
            refine gx_get (v := .int z1.2.1) (C := RX9) (T := TX9) (N := 44) hx hb hts hinX9 hown hK hG (ga_50 g _) rfl 15 (by decide) hw1 rfl rfl dX9_many_90 ?_
            refine lv_iconst (v := (1 : Int32)) hx hb dX9_many_93 (by decide) ?_
            refine lv_icmp_ne (tgt := 104) hx hb dX9_many_94 (by decide) (fun c11 => ?_) (fun c11 => ?_)
            · have h := ite_f c11 h
              refine lv_iconst (v := (-1 : Int32)) hx hb dX9_many_104 (by decide) ?_
              exact n105 (-1 : Int32) (σ.1 3221) (σ.1 3222) z1.1 z1.2.1 z1.2.2.1 (σ.2.2.1 64) (σ.2.2.1 60) (σ.2.2.1 62) (σ.2.2.1 63) (σ.2.2.1 61) z1.2.2.2 _ _ _ (lv_sub hl [] rfl) hG h
            · have h := ite_t c11 h
              refine lv_aload_n hx hb dX9_many_97 rfl (lv_at hl 0 rfl) ?_
              refine gx_get (v := .int z1.1) (C := RX9) (T := TX9) (N := 44) hx hb hts hinX9 hown hK hG (ga_50 g _) rfl 14 (by decide) hw2 rfl rfl dX9_many_98 ?_
              refine lv_goto (tgt := 105) hx hb dX9_many_101 (by decide) ?_
              exact n105 z1.1 (σ.1 3221) (σ.1 3222) z1.1 z1.2.1 z1.2.2.1 (σ.2.2.1 64) (σ.2.2.1 60) (σ.2.2.1 62) (σ.2.2.1 63) (σ.2.2.1 61) z1.2.2.2 _ _ _ (lv_sub hl [] rfl) hG h
          · have h := ite_f c10 h
            by_cases c12 : x1 = (5 : Int32)
            · have h := ite_t c12 h
              refine lv_tableIn (off := 101) (tgt := 106) hx hb dX9_many_5 (by rw [c12]; decide) (by rw [c12]; decide) (by rw [c12]; rfl) (by decide) ?_
              refine lv_aload_n hx hb dX9_many_106 rfl (lv_at hl 0 rfl) ?_
              obtain ⟨z13, hc14, h⟩ := bnd_some h
              refine gx_cV (σ' := (mkS σ [(3221, (σ.1 3221)), (3222, (σ.1 3222)), (3214, z1.1), (3215, z1.2.1), (3212, z1.2.2.1)] [] [(64, (σ.2.2.1 64)), (60, z13.2), (62, (σ.2.2.1 62)), (63, (σ.2.2.1 63)), (61, (σ.2.2.1 61)), (59, z1.2.2.2)] [])) (r := (some (.int z13.1))) (rest := []) (As := []) hS9 (c_M_round l g (mkS σ [(3221, (σ.1 3221)), (3222, (σ.1 3222)), (3214, z1.1), (3215, z1.2.1), (3212, z1.2.2.1)] [] [(64, (σ.2.2.1 64)), (60, (σ.2.2.1 60)), (62, (σ.2.2.1 62)), (63, (σ.2.2.1 63)), (61, (σ.2.2.1 61)), (59, z1.2.2.2)] []) z13.1 z13.2 hc14) (mk_mk rfl rfl rfl rfl) (cwV 0 hts gX9_many_X9_round rfl rfl rfl (by decide +kernel) ⟨Nat.le_of_ble_eq_true rfl, Nat.le_of_ble_eq_true rfl⟩) hK hG (ga_50 g _) rfl rfl rfl hl.1 rfl (Nat.le_of_ble_eq_true rfl) dX9_many_107 (fun H locs hG => ?_)
              refine W.eq (g2 := F0 m 110 ls [.int z13.1]) rfl ?_
              cases h
              exact gx_iret hx hb hr hlocks hG dX9_many_110
            · have h := ite_f c12 h
              by_cases c15 : x1 = (6 : Int32)
              · have h := ite_t c15 h
                refine lv_tableIn (off := 106) (tgt := 111) hx hb dX9_many_5 (by rw [c15]; decide) (by rw [c15]; decide) (by rw [c15]; rfl) (by decide) ?_
                refine lv_aload_n hx hb dX9_many_111 rfl (lv_at hl 0 rfl) ?_
                obtain ⟨z16, hc17, h⟩ := bnd_some h
                refine gx_cV (σ' := (mkS σ [(3221, (σ.1 3221)), (3222, (σ.1 3222)), (3214, z1.1), (3215, z1.2.1), (3212, z1.2.2.1)] [] [(64, (σ.2.2.1 64)), (60, (σ.2.2.1 60)), (62, (σ.2.2.1 62)), (63, (σ.2.2.1 63)), (61, (σ.2.2.1 61)), (59, z1.2.2.2)] [])) (r := (some (.int z16))) (rest := []) (As := []) hS9 (c_M_isEven l g (mkS σ [(3221, (σ.1 3221)), (3222, (σ.1 3222)), (3214, z1.1), (3215, z1.2.1), (3212, z1.2.2.1)] [] [(64, (σ.2.2.1 64)), (60, (σ.2.2.1 60)), (62, (σ.2.2.1 62)), (63, (σ.2.2.1 63)), (61, (σ.2.2.1 61)), (59, z1.2.2.2)] []) z16 hc17) rfl (cwV 0 hts gX9_many_X9_isEven rfl rfl rfl (by decide +kernel) ⟨Nat.le_of_ble_eq_true rfl, Nat.le_of_ble_eq_true rfl⟩) hK hG (ga_50 g _) rfl rfl rfl hl.1 rfl (Nat.le_of_ble_eq_true rfl) dX9_many_112 (fun H locs hG => ?_)
                refine W.eq (g2 := F0 m 115 ls [.int z16]) rfl ?_
                refine lv_if_eq (tgt := 122) hx hb dX9_many_115 (by decide) (fun c18 => ?_) (fun c18 => ?_)
                · have h := ite_t c18 h
                  refine lv_iconst (v := (0 : Int32)) hx hb dX9_many_122 (by decide) ?_
                  exact n123 (0 : Int32) (σ.1 3221) (σ.1 3222) z1.1 z1.2.1 z1.2.2.1 (σ.2.2.1 64) (σ.2.2.1 60) (σ.2.2.1 62) (σ.2.2.1 63) (σ.2.2.1 61) z1.2.2.2 _ _ _ (lv_sub hl [] rfl) hG h
                · have h := ite_f c18 h
                  refine lv_iconst (v := (1 : Int32)) hx hb dX9_many_118 (by decide) ?_
                  refine lv_goto (tgt := 123) hx hb dX9_many_119 (by decide) ?_
                  exact n123 (1 : Int32) (σ.1 3221) (σ.1 3222) z1.1 z1.2.1 z1.2.2.1 (σ.2.2.1 64) (σ.2.2.1 60) (σ.2.2.1 62) (σ.2.2.1 63) (σ.2.2.1 61) z1.2.2.2 _ _ _ (lv_sub hl [] rfl) hG h
              · have h := ite_f c15 h
                by_cases c19 : x1 = (7 : Int32)
                · have h := ite_t c19 h
                  refine lv_tableIn (off := 119) (tgt := 124) hx hb dX9_many_5 (by rw [c19]; decide) (by rw [c19]; decide) (by rw [c19]; rfl) (by decide) ?_
                  refine lv_aload_n hx hb dX9_many_124 rfl (lv_at hl 0 rfl) ?_
                  obtain ⟨z20, hc21, h⟩ := bnd_some h
                  refine gx_cV (σ' := (mkS σ [(3221, (σ.1 3221)), (3222, (σ.1 3222)), (3214, z20.2.1), (3215, z20.2.2.1), (3212, z20.2.2.2.1)] [] [(64, (σ.2.2.1 64)), (60, (σ.2.2.1 60)), (62, (σ.2.2.1 62)), (63, (σ.2.2.1 63)), (61, (σ.2.2.1 61)), (59, z20.2.2.2.2)] [])) (r := (some (.int z20.1))) (rest := []) (As := []) hS9 (c_M_isOfSides l g (mkS σ [(3221, (σ.1 3221)), (3222, (σ.1 3222)), (3214, z1.1), (3215, z1.2.1), (3212, z1.2.2.1)] [] [(64, (σ.2.2.1 64)), (60, (σ.2.2.1 60)), (62, (σ.2.2.1 62)), (63, (σ.2.2.1 63)), (61, (σ.2.2.1 61)), (59, z1.2.2.2)] []) z20.1 z20.2.1 z20.2.2.1 z20.2.2.2.1 z20.2.2.2.2 hc21) (mk_mk rfl rfl rfl rfl) (cwV 0 hts gX9_many_X9_isOfSides rfl rfl rfl (by decide +kernel) ⟨Nat.le_of_ble_eq_true rfl, Nat.le_of_ble_eq_true rfl⟩) hK hG (ga_50 g _) rfl rfl rfl hl.1 rfl (Nat.le_of_ble_eq_true rfl) dX9_many_125 (fun H locs hG => ?_)
                  refine W.eq (g2 := F0 m 128 ls [.int z20.1]) rfl ?_
                  refine lv_if_eq (tgt := 135) hx hb dX9_many_128 (by decide) (fun c22 => ?_) (fun c22 => ?_)
                  · have h := ite_t c22 h
                    refine lv_iconst (v := (0 : Int32)) hx hb dX9_many_135 (by decide) ?_
                    exact n136 (0 : Int32) (σ.1 3221) (σ.1 3222) z20.2.1 z20.2.2.1 z20.2.2.2.1 (σ.2.2.1 64) (σ.2.2.1 60) (σ.2.2.1 62) (σ.2.2.1 63) (σ.2.2.1 61) z20.2.2.2.2 _ _ _ (lv_sub hl [] rfl) hG h
                  · have h := ite_f c22 h
                    refine lv_iconst (v := (1 : Int32)) hx hb dX9_many_131 (by decide) ?_
                    refine lv_goto (tgt := 136) hx hb dX9_many_132 (by decide) ?_
                    exact n136 (1 : Int32) (σ.1 3221) (σ.1 3222) z20.2.1 z20.2.2.1 z20.2.2.2.1 (σ.2.2.1 64) (σ.2.2.1 60) (σ.2.2.1 62) (σ.2.2.1 63) (σ.2.2.1 61) z20.2.2.2.2 _ _ _ (lv_sub hl [] rfl) hG h
                · have h := ite_f c19 h
                  by_cases c23 : x1 = (8 : Int32)
                  · have h := ite_t c23 h
                    refine lv_tableIn (off := 132) (tgt := 137) hx hb dX9_many_5 (by rw [c23]; decide) (by rw [c23]; decide) (by rw [c23]; rfl) (by decide) ?_
                    refine lv_aload_n hx hb dX9_many_137 rfl (lv_at hl 0 rfl) ?_
                    obtain ⟨z24, hc25, h⟩ := bnd_some h
                    refine gx_cV (σ' := (mkS σ [(3221, (σ.1 3221)), (3222, (σ.1 3222)), (3214, z24.2.1), (3215, z24.2.2.1), (3212, z24.2.2.2.1)] [] [(64, (σ.2.2.1 64)), (60, (σ.2.2.1 60)), (62, (σ.2.2.1 62)), (63, (σ.2.2.1 63)), (61, (σ.2.2.1 61)), (59, z24.2.2.2.2)] [])) (r := (some (.int z24.1))) (rest := []) (As := []) hS9 (c_M_isFolded l g (mkS σ [(3221, (σ.1 3221)), (3222, (σ.1 3222)), (3214, z1.1), (3215, z1.2.1), (3212, z1.2.2.1)] [] [(64, (σ.2.2.1 64)), (60, (σ.2.2.1 60)), (62, (σ.2.2.1 62)), (63, (σ.2.2.1 63)), (61, (σ.2.2.1 61)), (59, z1.2.2.2)] []) z24.1 z24.2.1 z24.2.2.1 z24.2.2.2.1 z24.2.2.2.2 hc25) (mk_mk rfl rfl rfl rfl) (cwV 0 hts gX9_many_X9_isFolded rfl rfl rfl (by decide +kernel) ⟨Nat.le_of_ble_eq_true rfl, Nat.le_of_ble_eq_true rfl⟩) hK hG (ga_50 g _) rfl rfl rfl hl.1 rfl (Nat.le_of_ble_eq_true rfl) dX9_many_138 (fun H locs hG => ?_)
                    refine W.eq (g2 := F0 m 141 ls [.int z24.1]) rfl ?_
                    refine lv_if_eq (tgt := 148) hx hb dX9_many_141 (by decide) (fun c26 => ?_) (fun c26 => ?_)
                    · have h := ite_t c26 h
                      refine lv_iconst (v := (0 : Int32)) hx hb dX9_many_148 (by decide) ?_
                      exact n149 (0 : Int32) (σ.1 3221) (σ.1 3222) z24.2.1 z24.2.2.1 z24.2.2.2.1 (σ.2.2.1 64) (σ.2.2.1 60) (σ.2.2.1 62) (σ.2.2.1 63) (σ.2.2.1 61) z24.2.2.2.2 _ _ _ (lv_sub hl [] rfl) hG h
                    · have h := ite_f c26 h
                      refine lv_iconst (v := (1 : Int32)) hx hb dX9_many_144 (by decide) ?_
                      refine lv_goto (tgt := 149) hx hb dX9_many_145 (by decide) ?_
                      exact n149 (1 : Int32) (σ.1 3221) (σ.1 3222) z24.2.1 z24.2.2.1 z24.2.2.2.1 (σ.2.2.1 64) (σ.2.2.1 60) (σ.2.2.1 62) (σ.2.2.1 63) (σ.2.2.1 61) z24.2.2.2.2 _ _ _ (lv_sub hl [] rfl) hG h
                  · have h := ite_f c23 h
                    by_cases c27 : x1 = (9 : Int32)
                    · have h := ite_t c27 h
                      refine lv_tableIn (off := 145) (tgt := 150) hx hb dX9_many_5 (by rw [c27]; decide) (by rw [c27]; decide) (by rw [c27]; rfl) (by decide) ?_
                      refine lv_aload_n hx hb dX9_many_150 rfl (lv_at hl 0 rfl) ?_
                      obtain ⟨z28, hc29, h⟩ := bnd_some h
                      refine gx_cV (σ' := (mkS σ [(3221, z28.2.1), (3222, z28.2.2.1), (3214, z28.2.2.2.1), (3215, z28.2.2.2.2.1), (3212, z28.2.2.2.2.2.1)] [] [(64, z28.2.2.2.2.2.2.1), (60, (σ.2.2.1 60)), (62, z28.2.2.2.2.2.2.2.1), (63, z28.2.2.2.2.2.2.2.2.1), (61, z28.2.2.2.2.2.2.2.2.2.1), (59, z28.2.2.2.2.2.2.2.2.2.2)] [])) (r := (some (.int z28.1))) (rest := []) (As := []) hS9 (c_M_isLike l g (mkS σ [(3221, (σ.1 3221)), (3222, (σ.1 3222)), (3214, z1.1), (3215, z1.2.1), (3212, z1.2.2.1)] [] [(64, (σ.2.2.1 64)), (60, (σ.2.2.1 60)), (62, (σ.2.2.1 62)), (63, (σ.2.2.1 63)), (61, (σ.2.2.1 61)), (59, z1.2.2.2)] []) z28.1 z28.2.1 z28.2.2.1 z28.2.2.2.1 z28.2.2.2.2.1 z28.2.2.2.2.2.1 z28.2.2.2.2.2.2.1 z28.2.2.2.2.2.2.2.1 z28.2.2.2.2.2.2.2.2.1 z28.2.2.2.2.2.2.2.2.2.1 z28.2.2.2.2.2.2.2.2.2.2 hc29) (mk_mk rfl rfl rfl rfl) (cwV 0 hts gX9_many_X9_isLike rfl rfl rfl (by decide +kernel) ⟨Nat.le_of_ble_eq_true rfl, Nat.le_of_ble_eq_true rfl⟩) hK hG (ga_50 g _) rfl rfl rfl hl.1 rfl (Nat.le_of_ble_eq_true rfl) dX9_many_151 (fun H locs hG => ?_)
                      refine W.eq (g2 := F0 m 154 ls [.int z28.1]) rfl ?_
                      refine lv_if_eq (tgt := 161) hx hb dX9_many_154 (by decide) (fun c30 => ?_) (fun c30 => ?_)
                      · have h := ite_t c30 h
                        refine lv_iconst (v := (0 : Int32)) hx hb dX9_many_161 (by decide) ?_
                        exact n162 (0 : Int32) z28.2.1 z28.2.2.1 z28.2.2.2.1 z28.2.2.2.2.1 z28.2.2.2.2.2.1 z28.2.2.2.2.2.2.1 (σ.2.2.1 60) z28.2.2.2.2.2.2.2.1 z28.2.2.2.2.2.2.2.2.1 z28.2.2.2.2.2.2.2.2.2.1 z28.2.2.2.2.2.2.2.2.2.2 _ _ _ (lv_sub hl [] rfl) hG h
                      · have h := ite_f c30 h
                        refine lv_iconst (v := (1 : Int32)) hx hb dX9_many_157 (by decide) ?_
                        refine lv_goto (tgt := 162) hx hb dX9_many_158 (by decide) ?_
                        exact n162 (1 : Int32) z28.2.1 z28.2.2.1 z28.2.2.2.1 z28.2.2.2.2.1 z28.2.2.2.2.2.1 z28.2.2.2.2.2.2.1 (σ.2.2.1 60) z28.2.2.2.2.2.2.2.1 z28.2.2.2.2.2.2.2.2.1 z28.2.2.2.2.2.2.2.2.2.1 z28.2.2.2.2.2.2.2.2.2.2 _ _ _ (lv_sub hl [] rfl) hG h
                    · have h := ite_f c27 h
                      refine lv_tableOut (tgt := 163) hx hb dX9_many_5 (sw_out (fun q h1 h2 => ?_)) (by decide) ?_
                      · rcases (show q = 0 ∨ q = 1 ∨ q = 2 ∨ q = 3 ∨ q = 4 ∨ q = 5 ∨ q = 6 ∨ q = 7 ∨ q = 8 ∨ q = 9 by omega) with rfl | rfl | rfl | rfl | rfl | rfl | rfl | rfl | rfl | rfl
                        · exact lv_neT c3 (by decide)
                        · exact lv_neT c4 (by decide)
                        · exact lv_neT c7 (by decide)
                        · exact lv_neT c8 (by decide)
                        · exact lv_neT c10 (by decide)
                        · exact lv_neT c12 (by decide)
                        · exact lv_neT c15 (by decide)
                        · exact lv_neT c19 (by decide)
                        · exact lv_neT c23 (by decide)
                        · exact lv_neT c27 (by decide)
                      refine lv_iconst (v := (-1 : Int32)) hx hb dX9_many_163 (by decide) ?_
                      cases h
                      exact gx_iret hx hb hr hlocks hG dX9_many_164

set_option maxHeartbeats 4000000 in
set_option maxRecDepth 100000 in
theorem c_M_net (l : Launch) (g : GC) (σ : St) (x1 : Int32) (r : Int32) (w_areKindsFound : Int32) (w_isMeasured : Int32) (w_posts : Int32) (w_road : Nat → Int32) (h : M_net x1 (σ.1 3238) (σ.1 3212) (σ.1 3203) (σ.2.2.1 54) = some (r, w_areKindsFound, w_isMeasured, w_posts, w_road)) : Cn l g yX9_net wsX9_net 1 25 [.ref (g.2.1 50), .int x1] σ (some (.int r)) (mkS σ [(3238, w_areKindsFound), (3212, w_isMeasured), (3203, w_posts)] [] [(54, w_road)] []) := by
  unfold Cn
  refine Met.ofW (cc := cX9_net) (maxL := 2) (ret := (some .int)) (by decide) rfl ?_
  intro p e s m args below meth c s₁ B hml hv
  obtain ⟨hargs, hP0, hK⟩ := hv
  have hx := B.exec
  have hb := B.bytes
  have hr := B.returns
  have hts := atoms_spec (ws := wsX9_net) B.pre
  have hown : s.vm.findClass RX9 = some m.cls := findClass_of_methodNamed B.named
  have hlocks := B.notSynchronized
  have hS9 : CallFix p m c cX9_net 2 s args wsX9_net RX9 := ⟨hx, hb, hml, hown, hts⟩
  have hw0 := hts (.constantLong RX9 132 (32)) (List.mem_of_getElem? (i := 1) rfl)
  have hf9 : entryFrame m args 2 = _ := (congrArg (fun a => entryFrame m a 2) hargs).trans (lg_entry_eq m [.ref (g.2.1 50), .int x1] 2)
  show Wg p l e 1 25 s m args below meth c g (some (.int r)) (mkS σ [(3238, w_areKindsFound), (3212, w_isMeasured), (3203, w_posts)] [] [(54, w_road)] []) s.heap [] (entryFrame m args 2)
  rw [hf9]
  have hl := lv_entry ([.ref (g.2.1 50), .int x1]) (n := 2) (Nat.le_of_ble_eq_true rfl)
  generalize (lg_sl ([.ref (g.2.1 50), .int x1]) ++ List.replicate (2 - (lg_sl ([.ref (g.2.1 50), .int x1])).length) Slot.unset).toArray = ls at hl ⊢
  have hl : lv_has ls 2 [(0, .ref (g.2.1 50)), (1, .int x1)] := hl
  have hG : GW g s σ s.heap [] := ⟨hP0, va_S.rf⟩
  have hG : GW g s (mkS σ [(3238, (σ.1 3238)), (3212, (σ.1 3212)), (3203, (σ.1 3203))] [] [(54, (σ.2.2.1 54))] []) s.heap [] := GW_self [3238, 3212, 3203] [] [54] [] hG
  unfold M_net at h
  refine lv_iload_n hx hb dX9_net_0 rfl (lv_at hl 1 rfl) ?_
  refine lv_i2l hx hb dX9_net_1 rfl ?_
  refine lv_lconst (v := (0 : Int64)) hx hb dX9_net_2 (by decide) ?_
  refine lv_ldc2 hx hb hown hw0 dX9_net_3 ?_
  obtain ⟨z1, hc2, h⟩ := bnd_some h
  refine gx_cS (σ' := (mkS σ [(3238, (σ.1 3238)), (3212, (σ.1 3212)), (3203, (σ.1 3203))] [] [(54, (σ.2.2.1 54))] [])) (r := (some (.int z1))) (rest := []) (As := [.long (x1.toInt64), .long (0 : Int64), .long (32 : Int64)]) hS9 (c_M_in l g (mkS σ [(3238, (σ.1 3238)), (3212, (σ.1 3212)), (3203, (σ.1 3203))] [] [(54, (σ.2.2.1 54))] []) (x1.toInt64) (0 : Int64) (32 : Int64) z1 hc2) rfl (va_cwS 3 hts gX9_net_X9_in rfl rfl rfl (by decide +kernel) ⟨Nat.le_of_ble_eq_true rfl, Nat.le_of_ble_eq_true rfl⟩) hK hG rfl hl.1 rfl (Nat.le_of_ble_eq_true rfl) dX9_net_6 (fun H locs hG => ?_)
  refine W.eq (g2 := F0 m 9 ls [.int z1]) rfl ?_
  refine lv_if_ne (tgt := 14) hx hb dX9_net_9 (by decide) (fun c3 => ?_) (fun c3 => ?_)
  · have h := ite_f c3 h
    refine lv_aload_n hx hb dX9_net_14 rfl (lv_at hl 0 rfl) ?_
    refine lv_iload_n hx hb dX9_net_15 rfl (lv_at hl 1 rfl) ?_
    obtain ⟨z4, hc5, h⟩ := bnd_some h
    refine gx_cV (σ' := (mkS σ [(3238, z4.1), (3212, z4.2.1), (3203, z4.2.2.1)] [] [(54, z4.2.2.2)] [])) (r := none) (rest := []) (As := [.int x1]) hS9 (c_M_fresh l g (mkS σ [(3238, (σ.1 3238)), (3212, (σ.1 3212)), (3203, (σ.1 3203))] [] [(54, (σ.2.2.1 54))] []) x1 z4.1 z4.2.1 z4.2.2.1 z4.2.2.2 hc5) (mk_mk rfl rfl rfl rfl) (cwV 1 hts gX9_net_X9_fresh rfl rfl rfl (by decide +kernel) ⟨Nat.le_of_ble_eq_true rfl, Nat.le_of_ble_eq_true rfl⟩) hK hG (ga_50 g _) rfl rfl rfl hl.1 rfl (Nat.le_of_ble_eq_true rfl) dX9_net_16 (fun H locs hG => ?_)
    refine W.eq (g2 := F0 m 19 ls []) rfl ?_
    refine lv_iconst (v := (1 : Int32)) hx hb dX9_net_19 (by decide) ?_
    cases h
    exact gx_iret hx hb hr hlocks hG dX9_net_20
  · have h := ite_t c3 h
    refine lv_iconst (v := (-1 : Int32)) hx hb dX9_net_12 (by decide) ?_
    cases h
    exact gx_iret hx hb hr hlocks hG dX9_net_13

set_option maxHeartbeats 4000000 in
set_option maxRecDepth 100000 in
theorem c_M_other (l : Launch) (g : GC) (σ : St) (r : Int32) (w_areKindsFound : Int32) (w_isMeasured : Int32) (w_posts : Int32) (w_newRoad : Nat → Int32) (w_road : Nat → Int32) (h : M_other (σ.1 3238) (σ.1 3212) (σ.1 3203) (σ.2.2.1 70) (σ.2.2.1 54) = some (r, w_areKindsFound, w_isMeasured, w_posts, w_newRoad, w_road)) : Cn l g yX9_other wsX9_other 2 45 [.ref (g.2.1 50)] σ (some (.int r)) (mkS σ [(3238, w_areKindsFound), (3212, w_isMeasured), (3203, w_posts)] [] [(70, w_newRoad), (54, w_road)] []) := by
  unfold Cn
  refine Met.ofW (cc := cX9_other) (maxL := 3) (ret := (some .int)) (by decide) rfl ?_
  intro p e s m args below meth c s₁ B hml hv
  obtain ⟨hargs, hP0, hK⟩ := hv
  have hx := B.exec
  have hb := B.bytes
  have hr := B.returns
  have hts := atoms_spec (ws := wsX9_other) B.pre
  have hown : s.vm.findClass RX9 = some m.cls := findClass_of_methodNamed B.named
  have hlocks := B.notSynchronized
  have hS9 : CallFix p m c cX9_other 3 s args wsX9_other RX9 := ⟨hx, hb, hml, hown, hts⟩
  have hinX9 : ∀ w ∈ wsX90, w ∈ wsX9_other := fun w h => List.mem_cons_of_mem _ (List.mem_append_right _ (h))
  have hw0 := hts (.fieldLink RX9 116 "LikeNetsModel" "posts" "I") (List.mem_of_getElem? (i := 1) rfl)
  have hw1 := hts (.fieldLink RX9 73 "LikeNetsModel" "newRoad" "[Z") (List.mem_of_getElem? (i := 2) rfl)
  have hw2 := hts (.fieldLink RX9 19 "LikeNetsModel" "road" "[Z") (List.mem_of_getElem? (i := 3) rfl)
  have hf9 : entryFrame m args 3 = _ := (congrArg (fun a => entryFrame m a 3) hargs).trans (lg_entry_eq m [.ref (g.2.1 50)] 3)
  show Wg p l e 2 45 s m args below meth c g (some (.int r)) (mkS σ [(3238, w_areKindsFound), (3212, w_isMeasured), (3203, w_posts)] [] [(70, w_newRoad), (54, w_road)] []) s.heap [] (entryFrame m args 3)
  rw [hf9]
  have hl := lv_entry ([.ref (g.2.1 50)]) (n := 3) (Nat.le_of_ble_eq_true rfl)
  generalize (lg_sl ([.ref (g.2.1 50)]) ++ List.replicate (3 - (lg_sl ([.ref (g.2.1 50)])).length) Slot.unset).toArray = ls at hl ⊢
  have hl : lv_has ls 3 [(0, .ref (g.2.1 50))] := hl
  have hG : GW g s σ s.heap [] := ⟨hP0, va_S.rf⟩
  have hG : GW g s (mkS σ [(3238, (σ.1 3238)), (3212, (σ.1 3212)), (3203, (σ.1 3203))] [] [(70, (σ.2.2.1 70)), (54, (σ.2.2.1 54))] []) s.heap [] := GW_self [3238, 3212, 3203] [] [70, 54] [] hG
  unfold M_other at h
  have n58 : ∀ (k16 : Int32 → Int32 → Int32 → Int32 → Int32 → (Nat → Int32) → (Nat → Int32) → Option (Int32 × Int32 × Int32 × Int32 × (Nat → Int32) × (Nat → Int32))) (hk16 : ∀ (x1 : Int32) (x2 : Int32) (v_areKindsFound : Int32) (v_isMeasured : Int32) (v_posts : Int32) (v_newRoad : Nat → Int32) (v_road : Nat → Int32) (H : Heap) (locs : List Loc) (ls : Array Slot), lv_has ls 3 [(0, .ref (g.2.1 50)), (1, .int x1), (2, .int x2)] → GW g s (mkS σ [(3238, v_areKindsFound), (3212, v_isMeasured), (3203, v_posts)] [] [(70, v_newRoad), (54, v_road)] []) H locs → k16 x1 x2 v_areKindsFound v_isMeasured v_posts v_newRoad v_road = some (r, w_areKindsFound, w_isMeasured, w_posts, w_newRoad, w_road) → Wg p l e 2 45 s m args below meth c g (some (.int r)) (mkS σ [(3238, w_areKindsFound), (3212, w_isMeasured), (3203, w_posts)] [] [(70, w_newRoad), (54, w_road)] []) H locs (F0 m 16 ls [])) (x1 : Int32) (x2 : Int32) (t1 : Int32) (t2 : Int32) (v_areKindsFound : Int32) (v_isMeasured : Int32) (v_posts : Int32) (v_newRoad : Nat → Int32) (v_road : Nat → Int32) (H : Heap) (locs : List Loc) (ls : Array Slot), lv_has ls 3 [(0, .ref (g.2.1 50)), (1, .int x1), (2, .int x2)] → GW g s (mkS σ [(3238, v_areKindsFound), (3212, v_isMeasured), (3203, v_posts)] [] [(70, v_newRoad), (54, v_road)] []) H locs → M_other_n58 k16 x1 x2 t1 t2 v_areKindsFound v_isMeasured v_posts v_newRoad v_road = some (r, w_areKindsFound, w_isMeasured, w_posts, w_newRoad, w_road) → Wg p l e 2 45 s m args below meth c g (some (.int r)) (mkS σ [(3238, w_areKindsFound), (3212, w_isMeasured), (3203, w_posts)] [] [(70, w_newRoad), (54, w_road)] []) H locs (F0 m 58 ls [.int t2, .int t1, .ref (g.2.1 70)]) := by
    intro k16 hk16 x1 x2 t1 t2 v_areKindsFound v_isMeasured v_posts v_newRoad v_road H locs ls hl hG h
    unfold M_other_n58 at h
    obtain ⟨hg1, h⟩ := gd_some h
    obtain ⟨hg2, h⟩ := gd_some h
    refine gx_zast (σ' := (mkS σ [(3238, v_areKindsFound), (3212, v_isMeasured), (3203, v_posts)] [] [(70, (upd v_newRoad (t1.toNatClampNeg) t2)), (54, v_road)] [])) (f := v_newRoad) hx hb hK hG (ga_70 g _) hg1 hg2 ((gs_70 g _ _).trans (congrArg (g_cells g) (mk_c 0 rfl rfl))) dX9_other_58 (fun H locs hG => ?_)
    refine lv_iinc (v := (x2 + (1 : Int32))) (lv' := [(2, .int (x2 + (1 : Int32))), (0, .ref (g.2.1 50)), (1, .int x1)]) hx hb dX9_other_59 hl (k := 2) rfl (congrArg (fun z => x2 + z) (by decide)) (Nat.le_of_ble_eq_true rfl) rfl (fun ls hl => ?_)
    refine lv_goto (tgt := 16) hx hb dX9_other_62 (by decide) ?_
    exact hk16 x1 (x2 + (1 : Int32)) v_areKindsFound v_isMeasured v_posts (upd v_newRoad (t1.toNatClampNeg) t2) v_road _ _ _ (lv_sub hl [1, 2, 0] rfl) hG h
  have n57 : ∀ (k16 : Int32 → Int32 → Int32 → Int32 → Int32 → (Nat → Int32) → (Nat → Int32) → Option (Int32 × Int32 × Int32 × Int32 × (Nat → Int32) × (Nat → Int32))) (hk16 : ∀ (x1 : Int32) (x2 : Int32) (v_areKindsFound : Int32) (v_isMeasured : Int32) (v_posts : Int32) (v_newRoad : Nat → Int32) (v_road : Nat → Int32) (H : Heap) (locs : List Loc) (ls : Array Slot), lv_has ls 3 [(0, .ref (g.2.1 50)), (1, .int x1), (2, .int x2)] → GW g s (mkS σ [(3238, v_areKindsFound), (3212, v_isMeasured), (3203, v_posts)] [] [(70, v_newRoad), (54, v_road)] []) H locs → k16 x1 x2 v_areKindsFound v_isMeasured v_posts v_newRoad v_road = some (r, w_areKindsFound, w_isMeasured, w_posts, w_newRoad, w_road) → Wg p l e 2 45 s m args below meth c g (some (.int r)) (mkS σ [(3238, w_areKindsFound), (3212, w_isMeasured), (3203, w_posts)] [] [(70, w_newRoad), (54, w_road)] []) H locs (F0 m 16 ls [])) (x1 : Int32) (x2 : Int32) (t1 : Int32) (v_areKindsFound : Int32) (v_isMeasured : Int32) (v_posts : Int32) (v_newRoad : Nat → Int32) (v_road : Nat → Int32) (H : Heap) (locs : List Loc) (ls : Array Slot), lv_has ls 3 [(0, .ref (g.2.1 50)), (1, .int x1), (2, .int x2)] → GW g s (mkS σ [(3238, v_areKindsFound), (3212, v_isMeasured), (3203, v_posts)] [] [(70, v_newRoad), (54, v_road)] []) H locs → M_other_n57 k16 x1 x2 t1 v_areKindsFound v_isMeasured v_posts v_newRoad v_road = some (r, w_areKindsFound, w_isMeasured, w_posts, w_newRoad, w_road) → Wg p l e 2 45 s m args below meth c g (some (.int r)) (mkS σ [(3238, w_areKindsFound), (3212, w_isMeasured), (3203, w_posts)] [] [(70, w_newRoad), (54, w_road)] []) H locs (F0 m 57 ls [.int t1, .ref (g.2.1 70)]) := by
    intro k16 hk16 x1 x2 t1 v_areKindsFound v_isMeasured v_posts v_newRoad v_road H locs ls hl hG h
    unfold M_other_n57 at h
    refine lv_iconst (v := (0 : Int32)) hx hb dX9_other_57 (by decide) ?_
    exact n58 k16 hk16 x1 x2 t1 (0 : Int32) v_areKindsFound v_isMeasured v_posts v_newRoad v_road _ _ _ (lv_sub hl [0, 1, 2] rfl) hG h
  have n65 : ∀ (k6 : Int32 → Int32 → Int32 → Int32 → (Nat → Int32) → (Nat → Int32) → Option (Int32 × Int32 × Int32 × Int32 × (Nat → Int32) × (Nat → Int32))) (hk6 : ∀ (x1 : Int32) (v_areKindsFound : Int32) (v_isMeasured : Int32) (v_posts : Int32) (v_newRoad : Nat → Int32) (v_road : Nat → Int32) (H : Heap) (locs : List Loc) (ls : Array Slot), lv_has ls 3 [(0, .ref (g.2.1 50)), (1, .int x1)] → GW g s (mkS σ [(3238, v_areKindsFound), (3212, v_isMeasured), (3203, v_posts)] [] [(70, v_newRoad), (54, v_road)] []) H locs → k6 x1 v_areKindsFound v_isMeasured v_posts v_newRoad v_road = some (r, w_areKindsFound, w_isMeasured, w_posts, w_newRoad, w_road) → Wg p l e 2 45 s m args below meth c g (some (.int r)) (mkS σ [(3238, w_areKindsFound), (3212, w_isMeasured), (3203, w_posts)] [] [(70, w_newRoad), (54, w_road)] []) H locs (F0 m 6 ls [])) (x1 : Int32) (v_areKindsFound : Int32) (v_isMeasured : Int32) (v_posts : Int32) (v_newRoad : Nat → Int32) (v_road : Nat → Int32) (H : Heap) (locs : List Loc) (ls : Array Slot), lv_has ls 3 [(0, .ref (g.2.1 50)), (1, .int x1)] → GW g s (mkS σ [(3238, v_areKindsFound), (3212, v_isMeasured), (3203, v_posts)] [] [(70, v_newRoad), (54, v_road)] []) H locs → M_other_n65 k6 x1 v_areKindsFound v_isMeasured v_posts v_newRoad v_road = some (r, w_areKindsFound, w_isMeasured, w_posts, w_newRoad, w_road) → Wg p l e 2 45 s m args below meth c g (some (.int r)) (mkS σ [(3238, w_areKindsFound), (3212, w_isMeasured), (3203, w_posts)] [] [(70, w_newRoad), (54, w_road)] []) H locs (F0 m 65 ls []) := by
    intro k6 hk6 x1 v_areKindsFound v_isMeasured v_posts v_newRoad v_road H locs ls hl hG h
    unfold M_other_n65 at h
    refine lv_iinc (v := (x1 + (1 : Int32))) (lv' := [(1, .int (x1 + (1 : Int32))), (0, .ref (g.2.1 50))]) hx hb dX9_other_65 hl (k := 1) rfl (congrArg (fun z => x1 + z) (by decide)) (Nat.le_of_ble_eq_true rfl) rfl (fun ls hl => ?_)
    refine lv_goto (tgt := 6) hx hb dX9_other_68 (by decide) ?_
    exact hk6 (x1 + (1 : Int32)) v_areKindsFound v_isMeasured v_posts v_newRoad v_road _ _ _ (lv_sub hl [1, 0] rfl) hG h
  have n16 : ∀ (k6 : Int32 → Int32 → Int32 → Int32 → (Nat → Int32) → (Nat → Int32) → Option (Int32 × Int32 × Int32 × Int32 × (Nat → Int32) × (Nat → Int32))) (hk6 : ∀ (x1 : Int32) (v_areKindsFound : Int32) (v_isMeasured : Int32) (v_posts : Int32) (v_newRoad : Nat → Int32) (v_road : Nat → Int32) (H : Heap) (locs : List Loc) (ls : Array Slot), lv_has ls 3 [(0, .ref (g.2.1 50)), (1, .int x1)] → GW g s (mkS σ [(3238, v_areKindsFound), (3212, v_isMeasured), (3203, v_posts)] [] [(70, v_newRoad), (54, v_road)] []) H locs → k6 x1 v_areKindsFound v_isMeasured v_posts v_newRoad v_road = some (r, w_areKindsFound, w_isMeasured, w_posts, w_newRoad, w_road) → Wg p l e 2 45 s m args below meth c g (some (.int r)) (mkS σ [(3238, w_areKindsFound), (3212, w_isMeasured), (3203, w_posts)] [] [(70, w_newRoad), (54, w_road)] []) H locs (F0 m 6 ls [])) (k16 : Int32 → Int32 → Int32 → Int32 → Int32 → (Nat → Int32) → (Nat → Int32) → Option (Int32 × Int32 × Int32 × Int32 × (Nat → Int32) × (Nat → Int32))) (hk16 : ∀ (x1 : Int32) (x2 : Int32) (v_areKindsFound : Int32) (v_isMeasured : Int32) (v_posts : Int32) (v_newRoad : Nat → Int32) (v_road : Nat → Int32) (H : Heap) (locs : List Loc) (ls : Array Slot), lv_has ls 3 [(0, .ref (g.2.1 50)), (1, .int x1), (2, .int x2)] → GW g s (mkS σ [(3238, v_areKindsFound), (3212, v_isMeasured), (3203, v_posts)] [] [(70, v_newRoad), (54, v_road)] []) H locs → k16 x1 x2 v_areKindsFound v_isMeasured v_posts v_newRoad v_road = some (r, w_areKindsFound, w_isMeasured, w_posts, w_newRoad, w_road) → Wg p l e 2 45 s m args below meth c g (some (.int r)) (mkS σ [(3238, w_areKindsFound), (3212, w_isMeasured), (3203, w_posts)] [] [(70, w_newRoad), (54, w_road)] []) H locs (F0 m 16 ls [])) (x1 : Int32) (x2 : Int32) (v_areKindsFound : Int32) (v_isMeasured : Int32) (v_posts : Int32) (v_newRoad : Nat → Int32) (v_road : Nat → Int32) (H : Heap) (locs : List Loc) (ls : Array Slot), lv_has ls 3 [(0, .ref (g.2.1 50)), (1, .int x1), (2, .int x2)] → GW g s (mkS σ [(3238, v_areKindsFound), (3212, v_isMeasured), (3203, v_posts)] [] [(70, v_newRoad), (54, v_road)] []) H locs → M_other_n16 k6 k16 x1 x2 v_areKindsFound v_isMeasured v_posts v_newRoad v_road = some (r, w_areKindsFound, w_isMeasured, w_posts, w_newRoad, w_road) → Wg p l e 2 45 s m args below meth c g (some (.int r)) (mkS σ [(3238, w_areKindsFound), (3212, w_isMeasured), (3203, w_posts)] [] [(70, w_newRoad), (54, w_road)] []) H locs (F0 m 16 ls []) := by
    intro k6 hk6 k16 hk16 x1 x2 v_areKindsFound v_isMeasured v_posts v_newRoad v_road H locs ls hl hG h
    unfold M_other_n16 at h
    refine lv_iload_n hx hb dX9_other_16 rfl (lv_at hl 2 rfl) ?_
    refine lv_aload_n hx hb dX9_other_17 rfl (lv_at hl 0 rfl) ?_
    refine gx_get (v := .int v_posts) (C := RX9) (T := TX9) (N := 44) hx hb hts hinX9 hown hK hG (ga_50 g _) rfl 3 (by decide) hw0 rfl rfl dX9_other_18 ?_
    refine lv_icmp_ge (tgt := 65) hx hb dX9_other_21 (by decide) (fun c3 => ?_) (fun c3 => ?_)
    · have h := ite_t c3 h
      exact n65 k6 hk6 x1 v_areKindsFound v_isMeasured v_posts v_newRoad v_road _ _ _ (lv_sub hl [0, 1] rfl) hG h
    · have h := ite_f c3 h
      refine lv_aload_n hx hb dX9_other_24 rfl (lv_at hl 0 rfl) ?_
      refine gx_get (v := .ref (g.2.1 70)) (C := RX9) (T := TX9) (N := 44) hx hb hts hinX9 hown hK hG (ga_50 g _) rfl 29 (by decide) hw1 rfl rfl dX9_other_25 ?_
      refine lv_bipush (v := (32 : Int32)) hx hb dX9_other_28 (by decide) ?_
      refine lv_iload_n hx hb dX9_other_30 rfl (lv_at hl 1 rfl) ?_
      refine lv_imul hx hb dX9_other_31 ?_
      refine lv_iload_n hx hb dX9_other_32 rfl (lv_at hl 2 rfl) ?_
      refine lv_iadd hx hb dX9_other_33 ?_
      refine lv_iload_n hx hb dX9_other_34 rfl (lv_at hl 1 rfl) ?_
      refine lv_iload_n hx hb dX9_other_35 rfl (lv_at hl 2 rfl) ?_
      refine lv_icmp_eq (tgt := 57) hx hb dX9_other_36 (by decide) (fun c4 => ?_) (fun c4 => ?_)
      · have h := ite_t c4 h
        exact n57 k16 hk16 x1 x2 (((32 : Int32) * x1) + x2) v_areKindsFound v_isMeasured v_posts v_newRoad v_road _ _ _ (lv_sub hl [0, 1, 2] rfl) hG h
      · have h := ite_f c4 h
        refine lv_aload_n hx hb dX9_other_39 rfl (lv_at hl 0 rfl) ?_
        refine gx_get (v := .ref (g.2.1 54)) (C := RX9) (T := TX9) (N := 44) hx hb hts hinX9 hown hK hG (ga_50 g _) rfl 4 (by decide) hw2 rfl rfl dX9_other_40 ?_
        refine lv_bipush (v := (32 : Int32)) hx hb dX9_other_43 (by decide) ?_
        refine lv_iload_n hx hb dX9_other_45 rfl (lv_at hl 1 rfl) ?_
        refine lv_imul hx hb dX9_other_46 ?_
        refine lv_iload_n hx hb dX9_other_47 rfl (lv_at hl 2 rfl) ?_
        refine lv_iadd hx hb dX9_other_48 ?_
        obtain ⟨hg5, h⟩ := gd_some h
        refine gx_zald (f := v_road) hx hb hK hG (ga_54 g _) hg5 dX9_other_49 ?_
        refine lv_if_ne (tgt := 57) hx hb dX9_other_50 (by decide) (fun c6 => ?_) (fun c6 => ?_)
        · have h := ite_f c6 h
          exact n57 k16 hk16 x1 x2 (((32 : Int32) * x1) + x2) v_areKindsFound v_isMeasured v_posts v_newRoad v_road _ _ _ (lv_sub hl [0, 1, 2] rfl) hG h
        · have h := ite_t c6 h
          refine lv_iconst (v := (1 : Int32)) hx hb dX9_other_53 (by decide) ?_
          refine lv_goto (tgt := 58) hx hb dX9_other_54 (by decide) ?_
          exact n58 k16 hk16 x1 x2 (((32 : Int32) * x1) + x2) (1 : Int32) v_areKindsFound v_isMeasured v_posts v_newRoad v_road _ _ _ (lv_sub hl [0, 1, 2] rfl) hG h
  have l16 : ∀ (k6 : Int32 → Int32 → Int32 → Int32 → (Nat → Int32) → (Nat → Int32) → Option (Int32 × Int32 × Int32 × Int32 × (Nat → Int32) × (Nat → Int32))) (hk6 : ∀ (x1 : Int32) (v_areKindsFound : Int32) (v_isMeasured : Int32) (v_posts : Int32) (v_newRoad : Nat → Int32) (v_road : Nat → Int32) (H : Heap) (locs : List Loc) (ls : Array Slot), lv_has ls 3 [(0, .ref (g.2.1 50)), (1, .int x1)] → GW g s (mkS σ [(3238, v_areKindsFound), (3212, v_isMeasured), (3203, v_posts)] [] [(70, v_newRoad), (54, v_road)] []) H locs → k6 x1 v_areKindsFound v_isMeasured v_posts v_newRoad v_road = some (r, w_areKindsFound, w_isMeasured, w_posts, w_newRoad, w_road) → Wg p l e 2 45 s m args below meth c g (some (.int r)) (mkS σ [(3238, w_areKindsFound), (3212, w_isMeasured), (3203, w_posts)] [] [(70, w_newRoad), (54, w_road)] []) H locs (F0 m 6 ls [])) (F : Nat) (x1 : Int32) (x2 : Int32) (v_areKindsFound : Int32) (v_isMeasured : Int32) (v_posts : Int32) (v_newRoad : Nat → Int32) (v_road : Nat → Int32) (H : Heap) (locs : List Loc) (ls : Array Slot), lv_has ls 3 [(0, .ref (g.2.1 50)), (1, .int x1), (2, .int x2)] → GW g s (mkS σ [(3238, v_areKindsFound), (3212, v_isMeasured), (3203, v_posts)] [] [(70, v_newRoad), (54, v_road)] []) H locs → M_other_l16 k6 F x1 x2 v_areKindsFound v_isMeasured v_posts v_newRoad v_road = some (r, w_areKindsFound, w_isMeasured, w_posts, w_newRoad, w_road) → Wg p l e 2 45 s m args below meth c g (some (.int r)) (mkS σ [(3238, w_areKindsFound), (3212, w_isMeasured), (3203, w_posts)] [] [(70, w_newRoad), (54, w_road)] []) H locs (F0 m 16 ls []) := by
    intro k6 hk6 F
    induction F with
    | zero => intro x1 x2 v_areKindsFound v_isMeasured v_posts v_newRoad v_road H locs ls hl hG h; exact no_some h
    | succ F ih => intro x1 x2 v_areKindsFound v_isMeasured v_posts v_newRoad v_road H locs ls hl hG h; exact n16 k6 hk6 (fun x1 x2 v_areKindsFound v_isMeasured v_posts v_newRoad v_road => M_other_l16 k6 F x1 x2 v_areKindsFound v_isMeasured v_posts v_newRoad v_road) ih x1 x2 v_areKindsFound v_isMeasured v_posts v_newRoad v_road H locs ls hl hG h
  have n71 : ∀ (v_areKindsFound : Int32) (v_isMeasured : Int32) (v_posts : Int32) (v_newRoad : Nat → Int32) (v_road : Nat → Int32) (H : Heap) (locs : List Loc) (ls : Array Slot), lv_has ls 3 [(0, .ref (g.2.1 50))] → GW g s (mkS σ [(3238, v_areKindsFound), (3212, v_isMeasured), (3203, v_posts)] [] [(70, v_newRoad), (54, v_road)] []) H locs → M_other_n71 v_areKindsFound v_isMeasured v_posts v_newRoad v_road = some (r, w_areKindsFound, w_isMeasured, w_posts, w_newRoad, w_road) → Wg p l e 2 45 s m args below meth c g (some (.int r)) (mkS σ [(3238, w_areKindsFound), (3212, w_isMeasured), (3203, w_posts)] [] [(70, w_newRoad), (54, w_road)] []) H locs (F0 m 71 ls []) := by
    intro v_areKindsFound v_isMeasured v_posts v_newRoad v_road H locs ls hl hG h
    unfold M_other_n71 at h
    refine lv_aload_n hx hb dX9_other_71 rfl (lv_at hl 0 rfl) ?_
    refine lv_aload_n hx hb dX9_other_72 rfl (lv_at hl 0 rfl) ?_
    refine gx_get (v := .int v_posts) (C := RX9) (T := TX9) (N := 44) hx hb hts hinX9 hown hK hG (ga_50 g _) rfl 3 (by decide) hw0 rfl rfl dX9_other_73 ?_
    obtain ⟨z7, hc8, h⟩ := bnd_some h
    refine gx_cV (σ' := (mkS σ [(3238, z7.1), (3212, z7.2.1), (3203, z7.2.2.1)] [] [(70, v_newRoad), (54, z7.2.2.2)] [])) (r := none) (rest := []) (As := [.int v_posts]) hS9 (c_M_become l g (mkS σ [(3238, v_areKindsFound), (3212, v_isMeasured), (3203, v_posts)] [] [(70, v_newRoad), (54, v_road)] []) v_posts z7.1 z7.2.1 z7.2.2.1 z7.2.2.2 hc8) (mk_mk rfl rfl rfl rfl) (cwV 1 hts gX9_other_X9_become rfl rfl rfl (by decide +kernel) ⟨Nat.le_of_ble_eq_true rfl, Nat.le_of_ble_eq_true rfl⟩) hK hG (ga_50 g _) rfl rfl rfl hl.1 rfl (Nat.le_of_ble_eq_true rfl) dX9_other_76 (fun H locs hG => ?_)
    refine W.eq (g2 := F0 m 79 ls []) rfl ?_
    refine lv_aload_n hx hb dX9_other_79 rfl (lv_at hl 0 rfl) ?_
    obtain ⟨z9, hc10, h⟩ := bnd_some h
    refine gx_cV (σ' := (mkS σ [(3238, z7.1), (3212, z7.2.1), (3203, z7.2.2.1)] [] [(70, v_newRoad), (54, z7.2.2.2)] [])) (r := (some (.int z9))) (rest := []) (As := []) hS9 (c_M_roads l g (mkS σ [(3238, z7.1), (3212, z7.2.1), (3203, z7.2.2.1)] [] [(70, v_newRoad), (54, z7.2.2.2)] []) z9 hc10) rfl (cwV 0 hts gX9_other_X9_roads rfl rfl rfl (by decide +kernel) ⟨Nat.le_of_ble_eq_true rfl, Nat.le_of_ble_eq_true rfl⟩) hK hG (ga_50 g _) rfl rfl rfl hl.1 rfl (Nat.le_of_ble_eq_true rfl) dX9_other_80 (fun H locs hG => ?_)
    refine W.eq (g2 := F0 m 83 ls [.int z9]) rfl ?_
    cases h
    exact gx_iret hx hb hr hlocks hG dX9_other_83
  have n6 : ∀ (k6 : Int32 → Int32 → Int32 → Int32 → (Nat → Int32) → (Nat → Int32) → Option (Int32 × Int32 × Int32 × Int32 × (Nat → Int32) × (Nat → Int32))) (hk6 : ∀ (x1 : Int32) (v_areKindsFound : Int32) (v_isMeasured : Int32) (v_posts : Int32) (v_newRoad : Nat → Int32) (v_road : Nat → Int32) (H : Heap) (locs : List Loc) (ls : Array Slot), lv_has ls 3 [(0, .ref (g.2.1 50)), (1, .int x1)] → GW g s (mkS σ [(3238, v_areKindsFound), (3212, v_isMeasured), (3203, v_posts)] [] [(70, v_newRoad), (54, v_road)] []) H locs → k6 x1 v_areKindsFound v_isMeasured v_posts v_newRoad v_road = some (r, w_areKindsFound, w_isMeasured, w_posts, w_newRoad, w_road) → Wg p l e 2 45 s m args below meth c g (some (.int r)) (mkS σ [(3238, w_areKindsFound), (3212, w_isMeasured), (3203, w_posts)] [] [(70, w_newRoad), (54, w_road)] []) H locs (F0 m 6 ls [])) (x1 : Int32) (v_areKindsFound : Int32) (v_isMeasured : Int32) (v_posts : Int32) (v_newRoad : Nat → Int32) (v_road : Nat → Int32) (H : Heap) (locs : List Loc) (ls : Array Slot), lv_has ls 3 [(0, .ref (g.2.1 50)), (1, .int x1)] → GW g s (mkS σ [(3238, v_areKindsFound), (3212, v_isMeasured), (3203, v_posts)] [] [(70, v_newRoad), (54, v_road)] []) H locs → M_other_n6 k6 x1 v_areKindsFound v_isMeasured v_posts v_newRoad v_road = some (r, w_areKindsFound, w_isMeasured, w_posts, w_newRoad, w_road) → Wg p l e 2 45 s m args below meth c g (some (.int r)) (mkS σ [(3238, w_areKindsFound), (3212, w_isMeasured), (3203, w_posts)] [] [(70, w_newRoad), (54, w_road)] []) H locs (F0 m 6 ls []) := by
    intro k6 hk6 x1 v_areKindsFound v_isMeasured v_posts v_newRoad v_road H locs ls hl hG h
    unfold M_other_n6 at h
    refine lv_iload_n hx hb dX9_other_6 rfl (lv_at hl 1 rfl) ?_
    refine lv_aload_n hx hb dX9_other_7 rfl (lv_at hl 0 rfl) ?_
    refine gx_get (v := .int v_posts) (C := RX9) (T := TX9) (N := 44) hx hb hts hinX9 hown hK hG (ga_50 g _) rfl 3 (by decide) hw0 rfl rfl dX9_other_8 ?_
    refine lv_icmp_ge (tgt := 71) hx hb dX9_other_11 (by decide) (fun c11 => ?_) (fun c11 => ?_)
    · have h := ite_t c11 h
      exact n71 v_areKindsFound v_isMeasured v_posts v_newRoad v_road _ _ _ (lv_sub hl [0] rfl) hG h
    · have h := ite_f c11 h
      refine lv_iconst (v := (0 : Int32)) hx hb dX9_other_14 (by decide) ?_
      refine lv_istore_n (lv' := [(2, .int (0 : Int32)), (0, .ref (g.2.1 50)), (1, .int x1)]) hx hb dX9_other_15 rfl hl (Nat.le_of_ble_eq_true rfl) rfl (fun ls hl => ?_)
      exact l16 k6 hk6 FUEL x1 (0 : Int32) v_areKindsFound v_isMeasured v_posts v_newRoad v_road _ _ _ (lv_sub hl [1, 2, 0] rfl) hG h
  have l6 : ∀  (F : Nat) (x1 : Int32) (v_areKindsFound : Int32) (v_isMeasured : Int32) (v_posts : Int32) (v_newRoad : Nat → Int32) (v_road : Nat → Int32) (H : Heap) (locs : List Loc) (ls : Array Slot), lv_has ls 3 [(0, .ref (g.2.1 50)), (1, .int x1)] → GW g s (mkS σ [(3238, v_areKindsFound), (3212, v_isMeasured), (3203, v_posts)] [] [(70, v_newRoad), (54, v_road)] []) H locs → M_other_l6 F x1 v_areKindsFound v_isMeasured v_posts v_newRoad v_road = some (r, w_areKindsFound, w_isMeasured, w_posts, w_newRoad, w_road) → Wg p l e 2 45 s m args below meth c g (some (.int r)) (mkS σ [(3238, w_areKindsFound), (3212, w_isMeasured), (3203, w_posts)] [] [(70, w_newRoad), (54, w_road)] []) H locs (F0 m 6 ls []) := by
    intro F
    induction F with
    | zero => intro x1 v_areKindsFound v_isMeasured v_posts v_newRoad v_road H locs ls hl hG h; exact no_some h
    | succ F ih => intro x1 v_areKindsFound v_isMeasured v_posts v_newRoad v_road H locs ls hl hG h; exact n6 (fun x1 v_areKindsFound v_isMeasured v_posts v_newRoad v_road => M_other_l6 F x1 v_areKindsFound v_isMeasured v_posts v_newRoad v_road) ih x1 v_areKindsFound v_isMeasured v_posts v_newRoad v_road H locs ls hl hG h
  refine lv_aload_n hx hb dX9_other_0 rfl (lv_at hl 0 rfl) ?_
  obtain ⟨z12, hc13, h⟩ := bnd_some h
  refine gx_cV (σ' := (mkS σ [(3238, (σ.1 3238)), (3212, (σ.1 3212)), (3203, (σ.1 3203))] [] [(70, z12), (54, (σ.2.2.1 54))] [])) (r := none) (rest := []) (As := []) hS9 (c_M_clearNew l g (mkS σ [(3238, (σ.1 3238)), (3212, (σ.1 3212)), (3203, (σ.1 3203))] [] [(70, (σ.2.2.1 70)), (54, (σ.2.2.1 54))] []) z12 hc13) (mk_mk rfl rfl rfl rfl) (cwV 0 hts gX9_other_X9_clearNew rfl rfl rfl (by decide +kernel) ⟨Nat.le_of_ble_eq_true rfl, Nat.le_of_ble_eq_true rfl⟩) hK hG (ga_50 g _) rfl rfl rfl hl.1 rfl (Nat.le_of_ble_eq_true rfl) dX9_other_1 (fun H locs hG => ?_)
  refine W.eq (g2 := F0 m 4 ls []) rfl ?_
  refine lv_iconst (v := (0 : Int32)) hx hb dX9_other_4 (by decide) ?_
  refine lv_istore_n (lv' := [(1, .int (0 : Int32)), (0, .ref (g.2.1 50))]) hx hb dX9_other_5 rfl hl (Nat.le_of_ble_eq_true rfl) rfl (fun ls hl => ?_)
  exact l6 FUEL (0 : Int32) (σ.1 3238) (σ.1 3212) (σ.1 3203) z12 (σ.2.2.1 54) _ _ _ (lv_sub hl [1, 0] rfl) hG h

