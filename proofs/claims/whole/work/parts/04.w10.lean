set_option maxHeartbeats 4000000 in
set_option maxRecDepth 100000 in
theorem c_M_perfect (l : Launch) (g : GC) (σ : St) (x1 : Int32) (r : Int32) (w_far : Int32) (w_heaps : Int32) (w_isMeasured : Int32) (w_takenMany : Int32) (w_coveredAt : Nat → Int32) (w_nearTo : Nat → Int32) (w_taken : Nat → Int32) (w_tried : Nat → Int32) (w_wayOf : Nat → Int32) (h : M_perfect x1 (σ.1 3214) (σ.1 3215) (σ.1 3212) (σ.1 3203) (σ.1 3235) (σ.2.2.1 77) (σ.2.2.1 76) (σ.2.2.1 54) (σ.2.2.1 74) (σ.2.2.1 75) (σ.2.2.1 59) = some (r, w_far, w_heaps, w_isMeasured, w_takenMany, w_coveredAt, w_nearTo, w_taken, w_tried, w_wayOf)) : Cn l g yX9_perfect wsX9_perfect 3 71 [.ref (g.2.1 50), .int x1] σ (some (.int r)) (mkS σ [(3214, w_far), (3215, w_heaps), (3212, w_isMeasured), (3235, w_takenMany)] [] [(77, w_coveredAt), (76, w_nearTo), (74, w_taken), (75, w_tried), (59, w_wayOf)] []) := by
  unfold Cn
  refine Met.ofW (cc := cX9_perfect) (maxL := 3) (ret := (some .int)) (by decide) rfl ?_
  intro p e s m args below meth c s₁ B hml hv
  obtain ⟨hargs, hP0, hK⟩ := hv
  have hx := B.exec
  have hb := B.bytes
  have hr := B.returns
  have hts := atoms_spec (ws := wsX9_perfect) B.pre
  have hown : s.vm.findClass RX9 = some m.cls := findClass_of_methodNamed B.named
  have hlocks := B.notSynchronized
  have hS9 : CallFix p m c cX9_perfect 3 s args wsX9_perfect RX9 := ⟨hx, hb, hml, hown, hts⟩
  have hinX9 : ∀ w ∈ wsX90, w ∈ wsX9_perfect := fun w h => List.mem_cons_of_mem _ (List.mem_append_right _ (h))
  have hw0 := hts (.fieldLink RX9 297 "LikeNetsModel" "takenMany" "I") (List.mem_of_getElem? (i := 1) rfl)
  have hf9 : entryFrame m args 3 = _ := (congrArg (fun a => entryFrame m a 3) hargs).trans (lg_entry_eq m [.ref (g.2.1 50), .int x1] 3)
  show Wg p l e 3 71 s m args below meth c g (some (.int r)) (mkS σ [(3214, w_far), (3215, w_heaps), (3212, w_isMeasured), (3235, w_takenMany)] [] [(77, w_coveredAt), (76, w_nearTo), (74, w_taken), (75, w_tried), (59, w_wayOf)] []) s.heap [] (entryFrame m args 3)
  rw [hf9]
  have hl := lv_entry ([.ref (g.2.1 50), .int x1]) (n := 3) (Nat.le_of_ble_eq_true rfl)
  generalize (lg_sl ([.ref (g.2.1 50), .int x1]) ++ List.replicate (3 - (lg_sl ([.ref (g.2.1 50), .int x1])).length) Slot.unset).toArray = ls at hl ⊢
  have hl : lv_has ls 3 [(0, .ref (g.2.1 50)), (1, .int x1)] := hl
  have hG : GW g s σ s.heap [] := ⟨hP0, va_S.rf⟩
  have hG : GW g s (mkS σ [(3214, (σ.1 3214)), (3215, (σ.1 3215)), (3212, (σ.1 3212)), (3235, (σ.1 3235))] [] [(77, (σ.2.2.1 77)), (76, (σ.2.2.1 76)), (74, (σ.2.2.1 74)), (75, (σ.2.2.1 75)), (59, (σ.2.2.1 59))] []) s.heap [] := GW_self [3214, 3215, 3212, 3235] [] [77, 76, 74, 75, 59] [] hG
  unfold M_perfect at h
  have n18 : ∀ (t0 : Int32) (v_far : Int32) (v_heaps : Int32) (v_isMeasured : Int32) (v_takenMany : Int32) (v_coveredAt : Nat → Int32) (v_nearTo : Nat → Int32) (v_taken : Nat → Int32) (v_tried : Nat → Int32) (v_wayOf : Nat → Int32) (H : Heap) (locs : List Loc) (ls : Array Slot), lv_has ls 3 [] → GW g s (mkS σ [(3214, v_far), (3215, v_heaps), (3212, v_isMeasured), (3235, v_takenMany)] [] [(77, v_coveredAt), (76, v_nearTo), (74, v_taken), (75, v_tried), (59, v_wayOf)] []) H locs → M_perfect_n18 t0 v_far v_heaps v_isMeasured v_takenMany v_coveredAt v_nearTo v_taken v_tried v_wayOf = some (r, w_far, w_heaps, w_isMeasured, w_takenMany, w_coveredAt, w_nearTo, w_taken, w_tried, w_wayOf) → Wg p l e 3 71 s m args below meth c g (some (.int r)) (mkS σ [(3214, w_far), (3215, w_heaps), (3212, w_isMeasured), (3235, w_takenMany)] [] [(77, w_coveredAt), (76, w_nearTo), (74, w_taken), (75, w_tried), (59, w_wayOf)] []) H locs (F0 m 18 ls [.int t0]) := by
    intro t0 v_far v_heaps v_isMeasured v_takenMany v_coveredAt v_nearTo v_taken v_tried v_wayOf H locs ls hl hG h
    unfold M_perfect_n18 at h
    cases h
    exact gx_iret hx hb hr hlocks hG dX9_perfect_18
  refine lv_aload_n hx hb dX9_perfect_0 rfl (lv_at hl 0 rfl) ?_
  refine lv_iload_n hx hb dX9_perfect_1 rfl (lv_at hl 1 rfl) ?_
  obtain ⟨z1, hc2, h⟩ := bnd_some h
  refine gx_cV (σ' := (mkS σ [(3214, z1.2.1), (3215, z1.2.2.1), (3212, z1.2.2.2.1), (3235, z1.2.2.2.2.1)] [] [(77, z1.2.2.2.2.2.1), (76, z1.2.2.2.2.2.2.1), (74, z1.2.2.2.2.2.2.2.1), (75, z1.2.2.2.2.2.2.2.2.1), (59, z1.2.2.2.2.2.2.2.2.2)] [])) (r := (some (.int z1.1))) (rest := []) (As := [.int x1]) hS9 (c_M_find l g (mkS σ [(3214, (σ.1 3214)), (3215, (σ.1 3215)), (3212, (σ.1 3212)), (3235, (σ.1 3235))] [] [(77, (σ.2.2.1 77)), (76, (σ.2.2.1 76)), (74, (σ.2.2.1 74)), (75, (σ.2.2.1 75)), (59, (σ.2.2.1 59))] []) x1 z1.1 z1.2.1 z1.2.2.1 z1.2.2.2.1 z1.2.2.2.2.1 z1.2.2.2.2.2.1 z1.2.2.2.2.2.2.1 z1.2.2.2.2.2.2.2.1 z1.2.2.2.2.2.2.2.2.1 z1.2.2.2.2.2.2.2.2.2 hc2) (mk_mk rfl rfl rfl rfl) (cwV 1 hts gX9_perfect_X9_find rfl rfl rfl (by decide +kernel) ⟨Nat.le_of_ble_eq_true rfl, Nat.le_of_ble_eq_true rfl⟩) hK hG (ga_50 g _) rfl rfl rfl hl.1 rfl (Nat.le_of_ble_eq_true rfl) dX9_perfect_2 (fun H locs hG => ?_)
  refine W.eq (g2 := F0 m 5 ls [.int z1.1]) rfl ?_
  refine lv_istore_n (lv' := [(2, .int z1.1), (0, .ref (g.2.1 50)), (1, .int x1)]) hx hb dX9_perfect_5 rfl hl (Nat.le_of_ble_eq_true rfl) rfl (fun ls hl => ?_)
  refine lv_iload_n hx hb dX9_perfect_6 rfl (lv_at hl 0 rfl) ?_
  refine lv_if_eq (tgt := 14) hx hb dX9_perfect_7 (by decide) (fun c3 => ?_) (fun c3 => ?_)
  · have h := ite_t c3 h
    refine lv_aload_n hx hb dX9_perfect_14 rfl (lv_at hl 1 rfl) ?_
    refine gx_get (v := .int z1.2.2.2.2.1) (C := RX9) (T := TX9) (N := 44) hx hb hts hinX9 hown hK hG (ga_50 g _) rfl 35 (by decide) hw0 rfl rfl dX9_perfect_15 ?_
    exact n18 z1.2.2.2.2.1 z1.2.1 z1.2.2.1 z1.2.2.2.1 z1.2.2.2.2.1 z1.2.2.2.2.2.1 z1.2.2.2.2.2.2.1 z1.2.2.2.2.2.2.2.1 z1.2.2.2.2.2.2.2.2.1 z1.2.2.2.2.2.2.2.2.2 _ _ _ (lv_sub hl [] rfl) hG h
  · have h := ite_f c3 h
    refine lv_iload_n hx hb dX9_perfect_10 rfl (lv_at hl 0 rfl) ?_
    refine lv_goto (tgt := 18) hx hb dX9_perfect_11 (by decide) ?_
    exact n18 z1.1 z1.2.1 z1.2.2.1 z1.2.2.2.1 z1.2.2.2.2.1 z1.2.2.2.2.2.1 z1.2.2.2.2.2.2.1 z1.2.2.2.2.2.2.2.1 z1.2.2.2.2.2.2.2.2.1 z1.2.2.2.2.2.2.2.2.2 _ _ _ (lv_sub hl [] rfl) hG h

set_option maxHeartbeats 4000000 in
set_option maxRecDepth 100000 in
theorem c_M_posts (l : Launch) (g : GC) (σ : St) (r : Int32) (w_all : Int64) (w_sizes : Nat → Int64) (h : M_posts (σ.1 3208) (σ.2.1 3224) (σ.2.2.1 56) (σ.2.2.1 57) (σ.2.2.2 65) = some (r, w_all, w_sizes)) : Cn l g yX9_posts wsX9_posts 2 47 [.ref (g.2.1 50)] σ (some (.int r)) (mkS σ [] [(3224, w_all)] [] [(65, w_sizes)]) := by
  unfold Cn
  refine Met.ofW (cc := cX9_posts) (maxL := 1) (ret := (some .int)) (by decide) rfl ?_
  intro p e s m args below meth c s₁ B hml hv
  obtain ⟨hargs, hP0, hK⟩ := hv
  have hx := B.exec
  have hb := B.bytes
  have hr := B.returns
  have hts := atoms_spec (ws := wsX9_posts) B.pre
  have hown : s.vm.findClass RX9 = some m.cls := findClass_of_methodNamed B.named
  have hlocks := B.notSynchronized
  have hS9 : CallFix p m c cX9_posts 1 s args wsX9_posts RX9 := ⟨hx, hb, hml, hown, hts⟩
  have hinX9 : ∀ w ∈ wsX90, w ∈ wsX9_posts := fun w h => List.mem_cons_of_mem _ (List.mem_append_right _ (h))
  have hw0 := hts (.fieldLink RX9 245 "LikeNetsModel" "all" "J") (List.mem_of_getElem? (i := 1) rfl)
  have hf9 : entryFrame m args 1 = _ := (congrArg (fun a => entryFrame m a 1) hargs).trans (lg_entry_eq m [.ref (g.2.1 50)] 1)
  show Wg p l e 2 47 s m args below meth c g (some (.int r)) (mkS σ [] [(3224, w_all)] [] [(65, w_sizes)]) s.heap [] (entryFrame m args 1)
  rw [hf9]
  have hl := lv_entry ([.ref (g.2.1 50)]) (n := 1) (Nat.le_of_ble_eq_true rfl)
  generalize (lg_sl ([.ref (g.2.1 50)]) ++ List.replicate (1 - (lg_sl ([.ref (g.2.1 50)])).length) Slot.unset).toArray = ls at hl ⊢
  have hl : lv_has ls 1 [(0, .ref (g.2.1 50))] := hl
  have hG : GW g s σ s.heap [] := ⟨hP0, va_S.rf⟩
  have hG : GW g s (mkS σ [] [(3224, (σ.2.1 3224))] [] [(65, (σ.2.2.2 65))]) s.heap [] := GW_self [] [3224] [] [65] hG
  unfold M_posts at h
  have n17 : ∀ (t0 : Int32) (v_all : Int64) (v_sizes : Nat → Int64) (H : Heap) (locs : List Loc) (ls : Array Slot), lv_has ls 1 [] → GW g s (mkS σ [] [(3224, v_all)] [] [(65, v_sizes)]) H locs → M_posts_n17 t0 v_all v_sizes = some (r, w_all, w_sizes) → Wg p l e 2 47 s m args below meth c g (some (.int r)) (mkS σ [] [(3224, w_all)] [] [(65, w_sizes)]) H locs (F0 m 17 ls [.int t0]) := by
    intro t0 v_all v_sizes H locs ls hl hG h
    unfold M_posts_n17 at h
    cases h
    exact gx_iret hx hb hr hlocks hG dX9_posts_17
  refine lv_aload_n hx hb dX9_posts_0 rfl (lv_at hl 0 rfl) ?_
  obtain ⟨z1, hc2, h⟩ := bnd_some h
  refine gx_cV (σ' := (mkS σ [] [(3224, z1.2.1)] [] [(65, z1.2.2)])) (r := (some (.int z1.1))) (rest := []) (As := []) hS9 (c_M_firstLaws l g (mkS σ [] [(3224, (σ.2.1 3224))] [] [(65, (σ.2.2.2 65))]) z1.1 z1.2.1 z1.2.2 hc2) (mk_mk rfl rfl rfl rfl) (cwV 0 hts gX9_posts_X9_firstLaws rfl rfl rfl (by decide +kernel) ⟨Nat.le_of_ble_eq_true rfl, Nat.le_of_ble_eq_true rfl⟩) hK hG (ga_50 g _) rfl rfl rfl hl.1 rfl (Nat.le_of_ble_eq_true rfl) dX9_posts_1 (fun H locs hG => ?_)
  refine W.eq (g2 := F0 m 4 ls [.int z1.1]) rfl ?_
  refine lv_if_le (tgt := 12) hx hb dX9_posts_4 (by decide) (fun c3 => ?_) (fun c3 => ?_)
  · have h := ite_t c3 h
    refine lv_aload_n hx hb dX9_posts_12 rfl (lv_at hl 0 rfl) ?_
    refine gx_get (v := .long z1.2.1) (C := RX9) (T := TX9) (N := 44) hx hb hts hinX9 hown hK hG (ga_50 g _) rfl 24 (by decide) hw0 rfl rfl dX9_posts_13 ?_
    refine lv_l2i hx hb dX9_posts_16 rfl ?_
    exact n17 (z1.2.1.toInt32) z1.2.1 z1.2.2 _ _ _ (lv_sub hl [] rfl) hG h
  · have h := ite_f c3 h
    refine lv_bipush (v := (-6 : Int32)) hx hb dX9_posts_7 (by decide) ?_
    refine lv_goto (tgt := 17) hx hb dX9_posts_9 (by decide) ?_
    exact n17 (-6 : Int32) z1.2.1 z1.2.2 _ _ _ (lv_sub hl [] rfl) hG h

set_option maxHeartbeats 4000000 in
set_option maxRecDepth 100000 in
theorem c_M_power (l : Launch) (g : GC) (σ : St) (x1 : Int32) (r : Int32) (w_areKindsFound : Int32) (w_far : Int32) (w_heaps : Int32) (w_isMeasured : Int32) (w_posts : Int32) (w_newRoad : Nat → Int32) (w_road : Nat → Int32) (w_wayOf : Nat → Int32) (h : M_power x1 (σ.1 3238) (σ.1 3214) (σ.1 3215) (σ.1 3212) (σ.1 3203) (σ.2.2.1 70) (σ.2.2.1 54) (σ.2.2.1 59) = some (r, w_areKindsFound, w_far, w_heaps, w_isMeasured, w_posts, w_newRoad, w_road, w_wayOf)) : Cn l g yX9_power_ wsX9_power_ 2 47 [.ref (g.2.1 50), .int x1] σ (some (.int r)) (mkS σ [(3238, w_areKindsFound), (3214, w_far), (3215, w_heaps), (3212, w_isMeasured), (3203, w_posts)] [] [(70, w_newRoad), (54, w_road), (59, w_wayOf)] []) := by
  unfold Cn
  refine Met.ofW (cc := cX9_power_) (maxL := 4) (ret := (some .int)) (by decide) rfl ?_
  intro p e s m args below meth c s₁ B hml hv
  obtain ⟨hargs, hP0, hK⟩ := hv
  have hx := B.exec
  have hb := B.bytes
  have hr := B.returns
  have hts := atoms_spec (ws := wsX9_power_) B.pre
  have hown : s.vm.findClass RX9 = some m.cls := findClass_of_methodNamed B.named
  have hlocks := B.notSynchronized
  have hS9 : CallFix p m c cX9_power_ 4 s args wsX9_power_ RX9 := ⟨hx, hb, hml, hown, hts⟩
  have hinX9 : ∀ w ∈ wsX90, w ∈ wsX9_power_ := fun w h => List.mem_cons_of_mem _ (List.mem_append_right _ (h))
  have hw0 := hts (.fieldLink RX9 116 "LikeNetsModel" "posts" "I") (List.mem_of_getElem? (i := 1) rfl)
  have hw1 := hts (.fieldLink RX9 73 "LikeNetsModel" "newRoad" "[Z") (List.mem_of_getElem? (i := 2) rfl)
  have hw2 := hts (.fieldLink RX9 39 "LikeNetsModel" "wayOf" "[I") (List.mem_of_getElem? (i := 3) rfl)
  have hf9 : entryFrame m args 4 = _ := (congrArg (fun a => entryFrame m a 4) hargs).trans (lg_entry_eq m [.ref (g.2.1 50), .int x1] 4)
  show Wg p l e 2 47 s m args below meth c g (some (.int r)) (mkS σ [(3238, w_areKindsFound), (3214, w_far), (3215, w_heaps), (3212, w_isMeasured), (3203, w_posts)] [] [(70, w_newRoad), (54, w_road), (59, w_wayOf)] []) s.heap [] (entryFrame m args 4)
  rw [hf9]
  have hl := lv_entry ([.ref (g.2.1 50), .int x1]) (n := 4) (Nat.le_of_ble_eq_true rfl)
  generalize (lg_sl ([.ref (g.2.1 50), .int x1]) ++ List.replicate (4 - (lg_sl ([.ref (g.2.1 50), .int x1])).length) Slot.unset).toArray = ls at hl ⊢
  have hl : lv_has ls 4 [(0, .ref (g.2.1 50)), (1, .int x1)] := hl
  have hG : GW g s σ s.heap [] := ⟨hP0, va_S.rf⟩
  have hG : GW g s (mkS σ [(3238, (σ.1 3238)), (3214, (σ.1 3214)), (3215, (σ.1 3215)), (3212, (σ.1 3212)), (3203, (σ.1 3203))] [] [(70, (σ.2.2.1 70)), (54, (σ.2.2.1 54)), (59, (σ.2.2.1 59))] []) s.heap [] := GW_self [3238, 3214, 3215, 3212, 3203] [] [70, 54, 59] [] hG
  unfold M_power at h
  have n81 : ∀ (k27 : Int32 → Int32 → Int32 → Int32 → Int32 → Int32 → Int32 → Int32 → (Nat → Int32) → (Nat → Int32) → (Nat → Int32) → Option (Int32 × Int32 × Int32 × Int32 × Int32 × Int32 × (Nat → Int32) × (Nat → Int32) × (Nat → Int32))) (hk27 : ∀ (x1 : Int32) (x2 : Int32) (x3 : Int32) (v_areKindsFound : Int32) (v_far : Int32) (v_heaps : Int32) (v_isMeasured : Int32) (v_posts : Int32) (v_newRoad : Nat → Int32) (v_road : Nat → Int32) (v_wayOf : Nat → Int32) (H : Heap) (locs : List Loc) (ls : Array Slot), lv_has ls 4 [(0, .ref (g.2.1 50)), (1, .int x1), (2, .int x2), (3, .int x3)] → GW g s (mkS σ [(3238, v_areKindsFound), (3214, v_far), (3215, v_heaps), (3212, v_isMeasured), (3203, v_posts)] [] [(70, v_newRoad), (54, v_road), (59, v_wayOf)] []) H locs → k27 x1 x2 x3 v_areKindsFound v_far v_heaps v_isMeasured v_posts v_newRoad v_road v_wayOf = some (r, w_areKindsFound, w_far, w_heaps, w_isMeasured, w_posts, w_newRoad, w_road, w_wayOf) → Wg p l e 2 47 s m args below meth c g (some (.int r)) (mkS σ [(3238, w_areKindsFound), (3214, w_far), (3215, w_heaps), (3212, w_isMeasured), (3203, w_posts)] [] [(70, w_newRoad), (54, w_road), (59, w_wayOf)] []) H locs (F0 m 27 ls [])) (x1 : Int32) (x2 : Int32) (x3 : Int32) (t1 : Int32) (t2 : Int32) (v_areKindsFound : Int32) (v_far : Int32) (v_heaps : Int32) (v_isMeasured : Int32) (v_posts : Int32) (v_newRoad : Nat → Int32) (v_road : Nat → Int32) (v_wayOf : Nat → Int32) (H : Heap) (locs : List Loc) (ls : Array Slot), lv_has ls 4 [(0, .ref (g.2.1 50)), (1, .int x1), (2, .int x2), (3, .int x3)] → GW g s (mkS σ [(3238, v_areKindsFound), (3214, v_far), (3215, v_heaps), (3212, v_isMeasured), (3203, v_posts)] [] [(70, v_newRoad), (54, v_road), (59, v_wayOf)] []) H locs → M_power_n81 k27 x1 x2 x3 t1 t2 v_areKindsFound v_far v_heaps v_isMeasured v_posts v_newRoad v_road v_wayOf = some (r, w_areKindsFound, w_far, w_heaps, w_isMeasured, w_posts, w_newRoad, w_road, w_wayOf) → Wg p l e 2 47 s m args below meth c g (some (.int r)) (mkS σ [(3238, w_areKindsFound), (3214, w_far), (3215, w_heaps), (3212, w_isMeasured), (3203, w_posts)] [] [(70, w_newRoad), (54, w_road), (59, w_wayOf)] []) H locs (F0 m 81 ls [.int t2, .int t1, .ref (g.2.1 70)]) := by
    intro k27 hk27 x1 x2 x3 t1 t2 v_areKindsFound v_far v_heaps v_isMeasured v_posts v_newRoad v_road v_wayOf H locs ls hl hG h
    unfold M_power_n81 at h
    obtain ⟨hg1, h⟩ := gd_some h
    obtain ⟨hg2, h⟩ := gd_some h
    refine gx_zast (σ' := (mkS σ [(3238, v_areKindsFound), (3214, v_far), (3215, v_heaps), (3212, v_isMeasured), (3203, v_posts)] [] [(70, (upd v_newRoad (t1.toNatClampNeg) t2)), (54, v_road), (59, v_wayOf)] [])) (f := v_newRoad) hx hb hK hG (ga_70 g _) hg1 hg2 ((gs_70 g _ _).trans (congrArg (g_cells g) (mk_c 0 rfl rfl))) dX9_power__81 (fun H locs hG => ?_)
    refine lv_iinc (v := (x3 + (1 : Int32))) (lv' := [(3, .int (x3 + (1 : Int32))), (0, .ref (g.2.1 50)), (1, .int x1), (2, .int x2)]) hx hb dX9_power__82 hl (k := 3) rfl (congrArg (fun z => x3 + z) (by decide)) (Nat.le_of_ble_eq_true rfl) rfl (fun ls hl => ?_)
    refine lv_goto (tgt := 27) hx hb dX9_power__85 (by decide) ?_
    exact hk27 x1 x2 (x3 + (1 : Int32)) v_areKindsFound v_far v_heaps v_isMeasured v_posts (upd v_newRoad (t1.toNatClampNeg) t2) v_road v_wayOf _ _ _ (lv_sub hl [1, 2, 3, 0] rfl) hG h
  have n80 : ∀ (k27 : Int32 → Int32 → Int32 → Int32 → Int32 → Int32 → Int32 → Int32 → (Nat → Int32) → (Nat → Int32) → (Nat → Int32) → Option (Int32 × Int32 × Int32 × Int32 × Int32 × Int32 × (Nat → Int32) × (Nat → Int32) × (Nat → Int32))) (hk27 : ∀ (x1 : Int32) (x2 : Int32) (x3 : Int32) (v_areKindsFound : Int32) (v_far : Int32) (v_heaps : Int32) (v_isMeasured : Int32) (v_posts : Int32) (v_newRoad : Nat → Int32) (v_road : Nat → Int32) (v_wayOf : Nat → Int32) (H : Heap) (locs : List Loc) (ls : Array Slot), lv_has ls 4 [(0, .ref (g.2.1 50)), (1, .int x1), (2, .int x2), (3, .int x3)] → GW g s (mkS σ [(3238, v_areKindsFound), (3214, v_far), (3215, v_heaps), (3212, v_isMeasured), (3203, v_posts)] [] [(70, v_newRoad), (54, v_road), (59, v_wayOf)] []) H locs → k27 x1 x2 x3 v_areKindsFound v_far v_heaps v_isMeasured v_posts v_newRoad v_road v_wayOf = some (r, w_areKindsFound, w_far, w_heaps, w_isMeasured, w_posts, w_newRoad, w_road, w_wayOf) → Wg p l e 2 47 s m args below meth c g (some (.int r)) (mkS σ [(3238, w_areKindsFound), (3214, w_far), (3215, w_heaps), (3212, w_isMeasured), (3203, w_posts)] [] [(70, w_newRoad), (54, w_road), (59, w_wayOf)] []) H locs (F0 m 27 ls [])) (x1 : Int32) (x2 : Int32) (x3 : Int32) (t1 : Int32) (v_areKindsFound : Int32) (v_far : Int32) (v_heaps : Int32) (v_isMeasured : Int32) (v_posts : Int32) (v_newRoad : Nat → Int32) (v_road : Nat → Int32) (v_wayOf : Nat → Int32) (H : Heap) (locs : List Loc) (ls : Array Slot), lv_has ls 4 [(0, .ref (g.2.1 50)), (1, .int x1), (2, .int x2), (3, .int x3)] → GW g s (mkS σ [(3238, v_areKindsFound), (3214, v_far), (3215, v_heaps), (3212, v_isMeasured), (3203, v_posts)] [] [(70, v_newRoad), (54, v_road), (59, v_wayOf)] []) H locs → M_power_n80 k27 x1 x2 x3 t1 v_areKindsFound v_far v_heaps v_isMeasured v_posts v_newRoad v_road v_wayOf = some (r, w_areKindsFound, w_far, w_heaps, w_isMeasured, w_posts, w_newRoad, w_road, w_wayOf) → Wg p l e 2 47 s m args below meth c g (some (.int r)) (mkS σ [(3238, w_areKindsFound), (3214, w_far), (3215, w_heaps), (3212, w_isMeasured), (3203, w_posts)] [] [(70, w_newRoad), (54, w_road), (59, w_wayOf)] []) H locs (F0 m 80 ls [.int t1, .ref (g.2.1 70)]) := by
    intro k27 hk27 x1 x2 x3 t1 v_areKindsFound v_far v_heaps v_isMeasured v_posts v_newRoad v_road v_wayOf H locs ls hl hG h
    unfold M_power_n80 at h
    refine lv_iconst (v := (0 : Int32)) hx hb dX9_power__80 (by decide) ?_
    exact n81 k27 hk27 x1 x2 x3 t1 (0 : Int32) v_areKindsFound v_far v_heaps v_isMeasured v_posts v_newRoad v_road v_wayOf _ _ _ (lv_sub hl [0, 1, 2, 3] rfl) hG h
  have n88 : ∀ (k17 : Int32 → Int32 → Int32 → Int32 → Int32 → Int32 → Int32 → (Nat → Int32) → (Nat → Int32) → (Nat → Int32) → Option (Int32 × Int32 × Int32 × Int32 × Int32 × Int32 × (Nat → Int32) × (Nat → Int32) × (Nat → Int32))) (hk17 : ∀ (x1 : Int32) (x2 : Int32) (v_areKindsFound : Int32) (v_far : Int32) (v_heaps : Int32) (v_isMeasured : Int32) (v_posts : Int32) (v_newRoad : Nat → Int32) (v_road : Nat → Int32) (v_wayOf : Nat → Int32) (H : Heap) (locs : List Loc) (ls : Array Slot), lv_has ls 4 [(0, .ref (g.2.1 50)), (1, .int x1), (2, .int x2)] → GW g s (mkS σ [(3238, v_areKindsFound), (3214, v_far), (3215, v_heaps), (3212, v_isMeasured), (3203, v_posts)] [] [(70, v_newRoad), (54, v_road), (59, v_wayOf)] []) H locs → k17 x1 x2 v_areKindsFound v_far v_heaps v_isMeasured v_posts v_newRoad v_road v_wayOf = some (r, w_areKindsFound, w_far, w_heaps, w_isMeasured, w_posts, w_newRoad, w_road, w_wayOf) → Wg p l e 2 47 s m args below meth c g (some (.int r)) (mkS σ [(3238, w_areKindsFound), (3214, w_far), (3215, w_heaps), (3212, w_isMeasured), (3203, w_posts)] [] [(70, w_newRoad), (54, w_road), (59, w_wayOf)] []) H locs (F0 m 17 ls [])) (x1 : Int32) (x2 : Int32) (v_areKindsFound : Int32) (v_far : Int32) (v_heaps : Int32) (v_isMeasured : Int32) (v_posts : Int32) (v_newRoad : Nat → Int32) (v_road : Nat → Int32) (v_wayOf : Nat → Int32) (H : Heap) (locs : List Loc) (ls : Array Slot), lv_has ls 4 [(0, .ref (g.2.1 50)), (1, .int x1), (2, .int x2)] → GW g s (mkS σ [(3238, v_areKindsFound), (3214, v_far), (3215, v_heaps), (3212, v_isMeasured), (3203, v_posts)] [] [(70, v_newRoad), (54, v_road), (59, v_wayOf)] []) H locs → M_power_n88 k17 x1 x2 v_areKindsFound v_far v_heaps v_isMeasured v_posts v_newRoad v_road v_wayOf = some (r, w_areKindsFound, w_far, w_heaps, w_isMeasured, w_posts, w_newRoad, w_road, w_wayOf) → Wg p l e 2 47 s m args below meth c g (some (.int r)) (mkS σ [(3238, w_areKindsFound), (3214, w_far), (3215, w_heaps), (3212, w_isMeasured), (3203, w_posts)] [] [(70, w_newRoad), (54, w_road), (59, w_wayOf)] []) H locs (F0 m 88 ls []) := by
    intro k17 hk17 x1 x2 v_areKindsFound v_far v_heaps v_isMeasured v_posts v_newRoad v_road v_wayOf H locs ls hl hG h
    unfold M_power_n88 at h
    refine lv_iinc (v := (x2 + (1 : Int32))) (lv' := [(2, .int (x2 + (1 : Int32))), (0, .ref (g.2.1 50)), (1, .int x1)]) hx hb dX9_power__88 hl (k := 2) rfl (congrArg (fun z => x2 + z) (by decide)) (Nat.le_of_ble_eq_true rfl) rfl (fun ls hl => ?_)
    refine lv_goto (tgt := 17) hx hb dX9_power__91 (by decide) ?_
    exact hk17 x1 (x2 + (1 : Int32)) v_areKindsFound v_far v_heaps v_isMeasured v_posts v_newRoad v_road v_wayOf _ _ _ (lv_sub hl [1, 2, 0] rfl) hG h
  have n27 : ∀ (k17 : Int32 → Int32 → Int32 → Int32 → Int32 → Int32 → Int32 → (Nat → Int32) → (Nat → Int32) → (Nat → Int32) → Option (Int32 × Int32 × Int32 × Int32 × Int32 × Int32 × (Nat → Int32) × (Nat → Int32) × (Nat → Int32))) (hk17 : ∀ (x1 : Int32) (x2 : Int32) (v_areKindsFound : Int32) (v_far : Int32) (v_heaps : Int32) (v_isMeasured : Int32) (v_posts : Int32) (v_newRoad : Nat → Int32) (v_road : Nat → Int32) (v_wayOf : Nat → Int32) (H : Heap) (locs : List Loc) (ls : Array Slot), lv_has ls 4 [(0, .ref (g.2.1 50)), (1, .int x1), (2, .int x2)] → GW g s (mkS σ [(3238, v_areKindsFound), (3214, v_far), (3215, v_heaps), (3212, v_isMeasured), (3203, v_posts)] [] [(70, v_newRoad), (54, v_road), (59, v_wayOf)] []) H locs → k17 x1 x2 v_areKindsFound v_far v_heaps v_isMeasured v_posts v_newRoad v_road v_wayOf = some (r, w_areKindsFound, w_far, w_heaps, w_isMeasured, w_posts, w_newRoad, w_road, w_wayOf) → Wg p l e 2 47 s m args below meth c g (some (.int r)) (mkS σ [(3238, w_areKindsFound), (3214, w_far), (3215, w_heaps), (3212, w_isMeasured), (3203, w_posts)] [] [(70, w_newRoad), (54, w_road), (59, w_wayOf)] []) H locs (F0 m 17 ls [])) (k27 : Int32 → Int32 → Int32 → Int32 → Int32 → Int32 → Int32 → Int32 → (Nat → Int32) → (Nat → Int32) → (Nat → Int32) → Option (Int32 × Int32 × Int32 × Int32 × Int32 × Int32 × (Nat → Int32) × (Nat → Int32) × (Nat → Int32))) (hk27 : ∀ (x1 : Int32) (x2 : Int32) (x3 : Int32) (v_areKindsFound : Int32) (v_far : Int32) (v_heaps : Int32) (v_isMeasured : Int32) (v_posts : Int32) (v_newRoad : Nat → Int32) (v_road : Nat → Int32) (v_wayOf : Nat → Int32) (H : Heap) (locs : List Loc) (ls : Array Slot), lv_has ls 4 [(0, .ref (g.2.1 50)), (1, .int x1), (2, .int x2), (3, .int x3)] → GW g s (mkS σ [(3238, v_areKindsFound), (3214, v_far), (3215, v_heaps), (3212, v_isMeasured), (3203, v_posts)] [] [(70, v_newRoad), (54, v_road), (59, v_wayOf)] []) H locs → k27 x1 x2 x3 v_areKindsFound v_far v_heaps v_isMeasured v_posts v_newRoad v_road v_wayOf = some (r, w_areKindsFound, w_far, w_heaps, w_isMeasured, w_posts, w_newRoad, w_road, w_wayOf) → Wg p l e 2 47 s m args below meth c g (some (.int r)) (mkS σ [(3238, w_areKindsFound), (3214, w_far), (3215, w_heaps), (3212, w_isMeasured), (3203, w_posts)] [] [(70, w_newRoad), (54, w_road), (59, w_wayOf)] []) H locs (F0 m 27 ls [])) (x1 : Int32) (x2 : Int32) (x3 : Int32) (v_areKindsFound : Int32) (v_far : Int32) (v_heaps : Int32) (v_isMeasured : Int32) (v_posts : Int32) (v_newRoad : Nat → Int32) (v_road : Nat → Int32) (v_wayOf : Nat → Int32) (H : Heap) (locs : List Loc) (ls : Array Slot), lv_has ls 4 [(0, .ref (g.2.1 50)), (1, .int x1), (2, .int x2), (3, .int x3)] → GW g s (mkS σ [(3238, v_areKindsFound), (3214, v_far), (3215, v_heaps), (3212, v_isMeasured), (3203, v_posts)] [] [(70, v_newRoad), (54, v_road), (59, v_wayOf)] []) H locs → M_power_n27 k17 k27 x1 x2 x3 v_areKindsFound v_far v_heaps v_isMeasured v_posts v_newRoad v_road v_wayOf = some (r, w_areKindsFound, w_far, w_heaps, w_isMeasured, w_posts, w_newRoad, w_road, w_wayOf) → Wg p l e 2 47 s m args below meth c g (some (.int r)) (mkS σ [(3238, w_areKindsFound), (3214, w_far), (3215, w_heaps), (3212, w_isMeasured), (3203, w_posts)] [] [(70, w_newRoad), (54, w_road), (59, w_wayOf)] []) H locs (F0 m 27 ls []) := by
    intro k17 hk17 k27 hk27 x1 x2 x3 v_areKindsFound v_far v_heaps v_isMeasured v_posts v_newRoad v_road v_wayOf H locs ls hl hG h
    unfold M_power_n27 at h
    refine lv_iload_n hx hb dX9_power__27 rfl (lv_at hl 3 rfl) ?_
    refine lv_aload_n hx hb dX9_power__28 rfl (lv_at hl 0 rfl) ?_
    refine gx_get (v := .int v_posts) (C := RX9) (T := TX9) (N := 44) hx hb hts hinX9 hown hK hG (ga_50 g _) rfl 3 (by decide) hw0 rfl rfl dX9_power__29 ?_
    refine lv_icmp_ge (tgt := 88) hx hb dX9_power__32 (by decide) (fun c3 => ?_) (fun c3 => ?_)
    · have h := ite_t c3 h
      exact n88 k17 hk17 x1 x2 v_areKindsFound v_far v_heaps v_isMeasured v_posts v_newRoad v_road v_wayOf _ _ _ (lv_sub hl [0, 1, 2] rfl) hG h
    · have h := ite_f c3 h
      refine lv_aload_n hx hb dX9_power__35 rfl (lv_at hl 0 rfl) ?_
      refine gx_get (v := .ref (g.2.1 70)) (C := RX9) (T := TX9) (N := 44) hx hb hts hinX9 hown hK hG (ga_50 g _) rfl 29 (by decide) hw1 rfl rfl dX9_power__36 ?_
      refine lv_bipush (v := (32 : Int32)) hx hb dX9_power__39 (by decide) ?_
      refine lv_iload_n hx hb dX9_power__41 rfl (lv_at hl 2 rfl) ?_
      refine lv_imul hx hb dX9_power__42 ?_
      refine lv_iload_n hx hb dX9_power__43 rfl (lv_at hl 3 rfl) ?_
      refine lv_iadd hx hb dX9_power__44 ?_
      refine lv_aload_n hx hb dX9_power__45 rfl (lv_at hl 0 rfl) ?_
      refine gx_get (v := .ref (g.2.1 59)) (C := RX9) (T := TX9) (N := 44) hx hb hts hinX9 hown hK hG (ga_50 g _) rfl 13 (by decide) hw2 rfl rfl dX9_power__46 ?_
      refine lv_bipush (v := (32 : Int32)) hx hb dX9_power__49 (by decide) ?_
      refine lv_iload_n hx hb dX9_power__51 rfl (lv_at hl 2 rfl) ?_
      refine lv_imul hx hb dX9_power__52 ?_
      refine lv_iload_n hx hb dX9_power__53 rfl (lv_at hl 3 rfl) ?_
      refine lv_iadd hx hb dX9_power__54 ?_
      obtain ⟨hg4, h⟩ := gd_some h
      refine gx_iald (f := v_wayOf) hx hb hK hG (ga_59 g _) hg4 dX9_power__55 ?_
      refine lv_bipush (v := (99 : Int32)) hx hb dX9_power__56 (by decide) ?_
      refine lv_icmp_eq (tgt := 80) hx hb dX9_power__58 (by decide) (fun c5 => ?_) (fun c5 => ?_)
      · have h := ite_t c5 h
        exact n80 k27 hk27 x1 x2 x3 (((32 : Int32) * x2) + x3) v_areKindsFound v_far v_heaps v_isMeasured v_posts v_newRoad v_road v_wayOf _ _ _ (lv_sub hl [0, 1, 2, 3] rfl) hG h
      · have h := ite_f c5 h
        refine lv_aload_n hx hb dX9_power__61 rfl (lv_at hl 0 rfl) ?_
        refine gx_get (v := .ref (g.2.1 59)) (C := RX9) (T := TX9) (N := 44) hx hb hts hinX9 hown hK hG (ga_50 g _) rfl 13 (by decide) hw2 rfl rfl dX9_power__62 ?_
        refine lv_bipush (v := (32 : Int32)) hx hb dX9_power__65 (by decide) ?_
        refine lv_iload_n hx hb dX9_power__67 rfl (lv_at hl 2 rfl) ?_
        refine lv_imul hx hb dX9_power__68 ?_
        refine lv_iload_n hx hb dX9_power__69 rfl (lv_at hl 3 rfl) ?_
        refine lv_iadd hx hb dX9_power__70 ?_
        refine gx_iald (f := v_wayOf) hx hb hK hG (ga_59 g _) hg4 dX9_power__71 ?_
        refine lv_iload_n hx hb dX9_power__72 rfl (lv_at hl 1 rfl) ?_
        refine lv_icmp_ne (tgt := 80) hx hb dX9_power__73 (by decide) (fun c6 => ?_) (fun c6 => ?_)
        · have h := ite_f c6 h
          exact n80 k27 hk27 x1 x2 x3 (((32 : Int32) * x2) + x3) v_areKindsFound v_far v_heaps v_isMeasured v_posts v_newRoad v_road v_wayOf _ _ _ (lv_sub hl [0, 1, 2, 3] rfl) hG h
        · have h := ite_t c6 h
          refine lv_iconst (v := (1 : Int32)) hx hb dX9_power__76 (by decide) ?_
          refine lv_goto (tgt := 81) hx hb dX9_power__77 (by decide) ?_
          exact n81 k27 hk27 x1 x2 x3 (((32 : Int32) * x2) + x3) (1 : Int32) v_areKindsFound v_far v_heaps v_isMeasured v_posts v_newRoad v_road v_wayOf _ _ _ (lv_sub hl [0, 1, 2, 3] rfl) hG h
  have l27 : ∀ (k17 : Int32 → Int32 → Int32 → Int32 → Int32 → Int32 → Int32 → (Nat → Int32) → (Nat → Int32) → (Nat → Int32) → Option (Int32 × Int32 × Int32 × Int32 × Int32 × Int32 × (Nat → Int32) × (Nat → Int32) × (Nat → Int32))) (hk17 : ∀ (x1 : Int32) (x2 : Int32) (v_areKindsFound : Int32) (v_far : Int32) (v_heaps : Int32) (v_isMeasured : Int32) (v_posts : Int32) (v_newRoad : Nat → Int32) (v_road : Nat → Int32) (v_wayOf : Nat → Int32) (H : Heap) (locs : List Loc) (ls : Array Slot), lv_has ls 4 [(0, .ref (g.2.1 50)), (1, .int x1), (2, .int x2)] → GW g s (mkS σ [(3238, v_areKindsFound), (3214, v_far), (3215, v_heaps), (3212, v_isMeasured), (3203, v_posts)] [] [(70, v_newRoad), (54, v_road), (59, v_wayOf)] []) H locs → k17 x1 x2 v_areKindsFound v_far v_heaps v_isMeasured v_posts v_newRoad v_road v_wayOf = some (r, w_areKindsFound, w_far, w_heaps, w_isMeasured, w_posts, w_newRoad, w_road, w_wayOf) → Wg p l e 2 47 s m args below meth c g (some (.int r)) (mkS σ [(3238, w_areKindsFound), (3214, w_far), (3215, w_heaps), (3212, w_isMeasured), (3203, w_posts)] [] [(70, w_newRoad), (54, w_road), (59, w_wayOf)] []) H locs (F0 m 17 ls [])) (F : Nat) (x1 : Int32) (x2 : Int32) (x3 : Int32) (v_areKindsFound : Int32) (v_far : Int32) (v_heaps : Int32) (v_isMeasured : Int32) (v_posts : Int32) (v_newRoad : Nat → Int32) (v_road : Nat → Int32) (v_wayOf : Nat → Int32) (H : Heap) (locs : List Loc) (ls : Array Slot), lv_has ls 4 [(0, .ref (g.2.1 50)), (1, .int x1), (2, .int x2), (3, .int x3)] → GW g s (mkS σ [(3238, v_areKindsFound), (3214, v_far), (3215, v_heaps), (3212, v_isMeasured), (3203, v_posts)] [] [(70, v_newRoad), (54, v_road), (59, v_wayOf)] []) H locs → M_power_l27 k17 F x1 x2 x3 v_areKindsFound v_far v_heaps v_isMeasured v_posts v_newRoad v_road v_wayOf = some (r, w_areKindsFound, w_far, w_heaps, w_isMeasured, w_posts, w_newRoad, w_road, w_wayOf) → Wg p l e 2 47 s m args below meth c g (some (.int r)) (mkS σ [(3238, w_areKindsFound), (3214, w_far), (3215, w_heaps), (3212, w_isMeasured), (3203, w_posts)] [] [(70, w_newRoad), (54, w_road), (59, w_wayOf)] []) H locs (F0 m 27 ls []) := by
    intro k17 hk17 F
    induction F with
    | zero => intro x1 x2 x3 v_areKindsFound v_far v_heaps v_isMeasured v_posts v_newRoad v_road v_wayOf H locs ls hl hG h; exact no_some h
    | succ F ih => intro x1 x2 x3 v_areKindsFound v_far v_heaps v_isMeasured v_posts v_newRoad v_road v_wayOf H locs ls hl hG h; exact n27 k17 hk17 (fun x1 x2 x3 v_areKindsFound v_far v_heaps v_isMeasured v_posts v_newRoad v_road v_wayOf => M_power_l27 k17 F x1 x2 x3 v_areKindsFound v_far v_heaps v_isMeasured v_posts v_newRoad v_road v_wayOf) ih x1 x2 x3 v_areKindsFound v_far v_heaps v_isMeasured v_posts v_newRoad v_road v_wayOf H locs ls hl hG h
  have n94 : ∀ (v_areKindsFound : Int32) (v_far : Int32) (v_heaps : Int32) (v_isMeasured : Int32) (v_posts : Int32) (v_newRoad : Nat → Int32) (v_road : Nat → Int32) (v_wayOf : Nat → Int32) (H : Heap) (locs : List Loc) (ls : Array Slot), lv_has ls 4 [(0, .ref (g.2.1 50))] → GW g s (mkS σ [(3238, v_areKindsFound), (3214, v_far), (3215, v_heaps), (3212, v_isMeasured), (3203, v_posts)] [] [(70, v_newRoad), (54, v_road), (59, v_wayOf)] []) H locs → M_power_n94 v_areKindsFound v_far v_heaps v_isMeasured v_posts v_newRoad v_road v_wayOf = some (r, w_areKindsFound, w_far, w_heaps, w_isMeasured, w_posts, w_newRoad, w_road, w_wayOf) → Wg p l e 2 47 s m args below meth c g (some (.int r)) (mkS σ [(3238, w_areKindsFound), (3214, w_far), (3215, w_heaps), (3212, w_isMeasured), (3203, w_posts)] [] [(70, w_newRoad), (54, w_road), (59, w_wayOf)] []) H locs (F0 m 94 ls []) := by
    intro v_areKindsFound v_far v_heaps v_isMeasured v_posts v_newRoad v_road v_wayOf H locs ls hl hG h
    unfold M_power_n94 at h
    refine lv_aload_n hx hb dX9_power__94 rfl (lv_at hl 0 rfl) ?_
    refine lv_aload_n hx hb dX9_power__95 rfl (lv_at hl 0 rfl) ?_
    refine gx_get (v := .int v_posts) (C := RX9) (T := TX9) (N := 44) hx hb hts hinX9 hown hK hG (ga_50 g _) rfl 3 (by decide) hw0 rfl rfl dX9_power__96 ?_
    obtain ⟨z7, hc8, h⟩ := bnd_some h
    refine gx_cV (σ' := (mkS σ [(3238, z7.1), (3214, v_far), (3215, v_heaps), (3212, z7.2.1), (3203, z7.2.2.1)] [] [(70, v_newRoad), (54, z7.2.2.2), (59, v_wayOf)] [])) (r := none) (rest := []) (As := [.int v_posts]) hS9 (c_M_become l g (mkS σ [(3238, v_areKindsFound), (3214, v_far), (3215, v_heaps), (3212, v_isMeasured), (3203, v_posts)] [] [(70, v_newRoad), (54, v_road), (59, v_wayOf)] []) v_posts z7.1 z7.2.1 z7.2.2.1 z7.2.2.2 hc8) (mk_mk rfl rfl rfl rfl) (cwV 1 hts gX9_power__X9_become rfl rfl rfl (by decide +kernel) ⟨Nat.le_of_ble_eq_true rfl, Nat.le_of_ble_eq_true rfl⟩) hK hG (ga_50 g _) rfl rfl rfl hl.1 rfl (Nat.le_of_ble_eq_true rfl) dX9_power__99 (fun H locs hG => ?_)
    refine W.eq (g2 := F0 m 102 ls []) rfl ?_
    refine lv_aload_n hx hb dX9_power__102 rfl (lv_at hl 0 rfl) ?_
    obtain ⟨z9, hc10, h⟩ := bnd_some h
    refine gx_cV (σ' := (mkS σ [(3238, z7.1), (3214, v_far), (3215, v_heaps), (3212, z7.2.1), (3203, z7.2.2.1)] [] [(70, v_newRoad), (54, z7.2.2.2), (59, v_wayOf)] [])) (r := (some (.int z9))) (rest := []) (As := []) hS9 (c_M_roads l g (mkS σ [(3238, z7.1), (3214, v_far), (3215, v_heaps), (3212, z7.2.1), (3203, z7.2.2.1)] [] [(70, v_newRoad), (54, z7.2.2.2), (59, v_wayOf)] []) z9 hc10) rfl (cwV 0 hts gX9_power__X9_roads rfl rfl rfl (by decide +kernel) ⟨Nat.le_of_ble_eq_true rfl, Nat.le_of_ble_eq_true rfl⟩) hK hG (ga_50 g _) rfl rfl rfl hl.1 rfl (Nat.le_of_ble_eq_true rfl) dX9_power__103 (fun H locs hG => ?_)
    refine W.eq (g2 := F0 m 106 ls [.int z9]) rfl ?_
    cases h
    exact gx_iret hx hb hr hlocks hG dX9_power__106
  have n17 : ∀ (k17 : Int32 → Int32 → Int32 → Int32 → Int32 → Int32 → Int32 → (Nat → Int32) → (Nat → Int32) → (Nat → Int32) → Option (Int32 × Int32 × Int32 × Int32 × Int32 × Int32 × (Nat → Int32) × (Nat → Int32) × (Nat → Int32))) (hk17 : ∀ (x1 : Int32) (x2 : Int32) (v_areKindsFound : Int32) (v_far : Int32) (v_heaps : Int32) (v_isMeasured : Int32) (v_posts : Int32) (v_newRoad : Nat → Int32) (v_road : Nat → Int32) (v_wayOf : Nat → Int32) (H : Heap) (locs : List Loc) (ls : Array Slot), lv_has ls 4 [(0, .ref (g.2.1 50)), (1, .int x1), (2, .int x2)] → GW g s (mkS σ [(3238, v_areKindsFound), (3214, v_far), (3215, v_heaps), (3212, v_isMeasured), (3203, v_posts)] [] [(70, v_newRoad), (54, v_road), (59, v_wayOf)] []) H locs → k17 x1 x2 v_areKindsFound v_far v_heaps v_isMeasured v_posts v_newRoad v_road v_wayOf = some (r, w_areKindsFound, w_far, w_heaps, w_isMeasured, w_posts, w_newRoad, w_road, w_wayOf) → Wg p l e 2 47 s m args below meth c g (some (.int r)) (mkS σ [(3238, w_areKindsFound), (3214, w_far), (3215, w_heaps), (3212, w_isMeasured), (3203, w_posts)] [] [(70, w_newRoad), (54, w_road), (59, w_wayOf)] []) H locs (F0 m 17 ls [])) (x1 : Int32) (x2 : Int32) (v_areKindsFound : Int32) (v_far : Int32) (v_heaps : Int32) (v_isMeasured : Int32) (v_posts : Int32) (v_newRoad : Nat → Int32) (v_road : Nat → Int32) (v_wayOf : Nat → Int32) (H : Heap) (locs : List Loc) (ls : Array Slot), lv_has ls 4 [(0, .ref (g.2.1 50)), (1, .int x1), (2, .int x2)] → GW g s (mkS σ [(3238, v_areKindsFound), (3214, v_far), (3215, v_heaps), (3212, v_isMeasured), (3203, v_posts)] [] [(70, v_newRoad), (54, v_road), (59, v_wayOf)] []) H locs → M_power_n17 k17 x1 x2 v_areKindsFound v_far v_heaps v_isMeasured v_posts v_newRoad v_road v_wayOf = some (r, w_areKindsFound, w_far, w_heaps, w_isMeasured, w_posts, w_newRoad, w_road, w_wayOf) → Wg p l e 2 47 s m args below meth c g (some (.int r)) (mkS σ [(3238, w_areKindsFound), (3214, w_far), (3215, w_heaps), (3212, w_isMeasured), (3203, w_posts)] [] [(70, w_newRoad), (54, w_road), (59, w_wayOf)] []) H locs (F0 m 17 ls []) := by
    intro k17 hk17 x1 x2 v_areKindsFound v_far v_heaps v_isMeasured v_posts v_newRoad v_road v_wayOf H locs ls hl hG h
    unfold M_power_n17 at h
    refine lv_iload_n hx hb dX9_power__17 rfl (lv_at hl 2 rfl) ?_
    refine lv_aload_n hx hb dX9_power__18 rfl (lv_at hl 0 rfl) ?_
    refine gx_get (v := .int v_posts) (C := RX9) (T := TX9) (N := 44) hx hb hts hinX9 hown hK hG (ga_50 g _) rfl 3 (by decide) hw0 rfl rfl dX9_power__19 ?_
    refine lv_icmp_ge (tgt := 94) hx hb dX9_power__22 (by decide) (fun c11 => ?_) (fun c11 => ?_)
    · have h := ite_t c11 h
      exact n94 v_areKindsFound v_far v_heaps v_isMeasured v_posts v_newRoad v_road v_wayOf _ _ _ (lv_sub hl [0] rfl) hG h
    · have h := ite_f c11 h
      refine lv_iconst (v := (0 : Int32)) hx hb dX9_power__25 (by decide) ?_
      refine lv_istore_n (lv' := [(3, .int (0 : Int32)), (0, .ref (g.2.1 50)), (1, .int x1), (2, .int x2)]) hx hb dX9_power__26 rfl hl (Nat.le_of_ble_eq_true rfl) rfl (fun ls hl => ?_)
      exact l27 k17 hk17 FUEL x1 x2 (0 : Int32) v_areKindsFound v_far v_heaps v_isMeasured v_posts v_newRoad v_road v_wayOf _ _ _ (lv_sub hl [1, 2, 3, 0] rfl) hG h
  have l17 : ∀  (F : Nat) (x1 : Int32) (x2 : Int32) (v_areKindsFound : Int32) (v_far : Int32) (v_heaps : Int32) (v_isMeasured : Int32) (v_posts : Int32) (v_newRoad : Nat → Int32) (v_road : Nat → Int32) (v_wayOf : Nat → Int32) (H : Heap) (locs : List Loc) (ls : Array Slot), lv_has ls 4 [(0, .ref (g.2.1 50)), (1, .int x1), (2, .int x2)] → GW g s (mkS σ [(3238, v_areKindsFound), (3214, v_far), (3215, v_heaps), (3212, v_isMeasured), (3203, v_posts)] [] [(70, v_newRoad), (54, v_road), (59, v_wayOf)] []) H locs → M_power_l17 F x1 x2 v_areKindsFound v_far v_heaps v_isMeasured v_posts v_newRoad v_road v_wayOf = some (r, w_areKindsFound, w_far, w_heaps, w_isMeasured, w_posts, w_newRoad, w_road, w_wayOf) → Wg p l e 2 47 s m args below meth c g (some (.int r)) (mkS σ [(3238, w_areKindsFound), (3214, w_far), (3215, w_heaps), (3212, w_isMeasured), (3203, w_posts)] [] [(70, w_newRoad), (54, w_road), (59, w_wayOf)] []) H locs (F0 m 17 ls []) := by
    intro F
    induction F with
    | zero => intro x1 x2 v_areKindsFound v_far v_heaps v_isMeasured v_posts v_newRoad v_road v_wayOf H locs ls hl hG h; exact no_some h
    | succ F ih => intro x1 x2 v_areKindsFound v_far v_heaps v_isMeasured v_posts v_newRoad v_road v_wayOf H locs ls hl hG h; exact n17 (fun x1 x2 v_areKindsFound v_far v_heaps v_isMeasured v_posts v_newRoad v_road v_wayOf => M_power_l17 F x1 x2 v_areKindsFound v_far v_heaps v_isMeasured v_posts v_newRoad v_road v_wayOf) ih x1 x2 v_areKindsFound v_far v_heaps v_isMeasured v_posts v_newRoad v_road v_wayOf H locs ls hl hG h
  refine lv_iload_n hx hb dX9_power__0 rfl (lv_at hl 1 rfl) ?_
  refine lv_iconst (v := (1 : Int32)) hx hb dX9_power__1 (by decide) ?_
  refine lv_icmp_ge (tgt := 7) hx hb dX9_power__2 (by decide) (fun c12 => ?_) (fun c12 => ?_)
  · have h := ite_t c12 h
    refine lv_aload_n hx hb dX9_power__7 rfl (lv_at hl 0 rfl) ?_
    obtain ⟨z13, hc14, h⟩ := bnd_some h
    refine gx_cV (σ' := (mkS σ [(3238, (σ.1 3238)), (3214, z13.1), (3215, z13.2.1), (3212, z13.2.2.1), (3203, (σ.1 3203))] [] [(70, (σ.2.2.1 70)), (54, (σ.2.2.1 54)), (59, z13.2.2.2)] [])) (r := none) (rest := []) (As := []) hS9 (c_M_measure l g (mkS σ [(3238, (σ.1 3238)), (3214, (σ.1 3214)), (3215, (σ.1 3215)), (3212, (σ.1 3212)), (3203, (σ.1 3203))] [] [(70, (σ.2.2.1 70)), (54, (σ.2.2.1 54)), (59, (σ.2.2.1 59))] []) z13.1 z13.2.1 z13.2.2.1 z13.2.2.2 hc14) (mk_mk rfl rfl rfl rfl) (cwV 0 hts gX9_power__X9_measure rfl rfl rfl (by decide +kernel) ⟨Nat.le_of_ble_eq_true rfl, Nat.le_of_ble_eq_true rfl⟩) hK hG (ga_50 g _) rfl rfl rfl hl.1 rfl (Nat.le_of_ble_eq_true rfl) dX9_power__8 (fun H locs hG => ?_)
    refine W.eq (g2 := F0 m 11 ls []) rfl ?_
    refine lv_aload_n hx hb dX9_power__11 rfl (lv_at hl 0 rfl) ?_
    obtain ⟨z15, hc16, h⟩ := bnd_some h
    refine gx_cV (σ' := (mkS σ [(3238, (σ.1 3238)), (3214, z13.1), (3215, z13.2.1), (3212, z13.2.2.1), (3203, (σ.1 3203))] [] [(70, z15), (54, (σ.2.2.1 54)), (59, z13.2.2.2)] [])) (r := none) (rest := []) (As := []) hS9 (c_M_clearNew l g (mkS σ [(3238, (σ.1 3238)), (3214, z13.1), (3215, z13.2.1), (3212, z13.2.2.1), (3203, (σ.1 3203))] [] [(70, (σ.2.2.1 70)), (54, (σ.2.2.1 54)), (59, z13.2.2.2)] []) z15 hc16) (mk_mk rfl rfl rfl rfl) (cwV 0 hts gX9_power__X9_clearNew rfl rfl rfl (by decide +kernel) ⟨Nat.le_of_ble_eq_true rfl, Nat.le_of_ble_eq_true rfl⟩) hK hG (ga_50 g _) rfl rfl rfl hl.1 rfl (Nat.le_of_ble_eq_true rfl) dX9_power__12 (fun H locs hG => ?_)
    refine W.eq (g2 := F0 m 15 ls []) rfl ?_
    refine lv_iconst (v := (0 : Int32)) hx hb dX9_power__15 (by decide) ?_
    refine lv_istore_n (lv' := [(2, .int (0 : Int32)), (0, .ref (g.2.1 50)), (1, .int x1)]) hx hb dX9_power__16 rfl hl (Nat.le_of_ble_eq_true rfl) rfl (fun ls hl => ?_)
    exact l17 FUEL x1 (0 : Int32) (σ.1 3238) z13.1 z13.2.1 z13.2.2.1 (σ.1 3203) z15 (σ.2.2.1 54) z13.2.2.2 _ _ _ (lv_sub hl [1, 2, 0] rfl) hG h
  · have h := ite_f c12 h
    refine lv_iconst (v := (-1 : Int32)) hx hb dX9_power__5 (by decide) ?_
    cases h
    exact gx_iret hx hb hr hlocks hG dX9_power__6

set_option maxHeartbeats 4000000 in
set_option maxRecDepth 100000 in
theorem c_M_put (l : Launch) (g : GC) (σ : St) (x1 : Int32) (x2 : Int32) (x3 : Int32) (r : Int32) (w_toldB : Nat → Int32) (w_toldC : Nat → Int32) (h : M_put x1 x2 x3 (σ.1 3208) (σ.2.2.1 56) (σ.2.2.1 57) = some (r, w_toldB, w_toldC)) : Cn l g yX9_put wsX9_put 1 25 [.ref (g.2.1 50), .int x1, .int x2, .int x3] σ (some (.int r)) (mkS σ [] [] [(56, w_toldB), (57, w_toldC)] []) := by
  unfold Cn
  refine Met.ofW (cc := cX9_put) (maxL := 4) (ret := (some .int)) (by decide) rfl ?_
  intro p e s m args below meth c s₁ B hml hv
  obtain ⟨hargs, hP0, hK⟩ := hv
  have hx := B.exec
  have hb := B.bytes
  have hr := B.returns
  have hts := atoms_spec (ws := wsX9_put) B.pre
  have hown : s.vm.findClass RX9 = some m.cls := findClass_of_methodNamed B.named
  have hlocks := B.notSynchronized
  have hS9 : CallFix p m c cX9_put 4 s args wsX9_put RX9 := ⟨hx, hb, hml, hown, hts⟩
  have hinX9 : ∀ w ∈ wsX90, w ∈ wsX9_put := fun w h => List.mem_cons_of_mem _ (List.mem_append_right _ (h))
  have hw0 := hts (.constantLong RX9 237 (20)) (List.mem_of_getElem? (i := 1) rfl)
  have hw1 := hts (.fieldLink RX9 26 "LikeNetsModel" "length" "I") (List.mem_of_getElem? (i := 2) rfl)
  have hw2 := hts (.fieldLink RX9 33 "LikeNetsModel" "toldC" "[I") (List.mem_of_getElem? (i := 4) rfl)
  have hw3 := hts (.fieldLink RX9 30 "LikeNetsModel" "toldB" "[I") (List.mem_of_getElem? (i := 3) rfl)
  have hf9 : entryFrame m args 4 = _ := (congrArg (fun a => entryFrame m a 4) hargs).trans (lg_entry_eq m [.ref (g.2.1 50), .int x1, .int x2, .int x3] 4)
  show Wg p l e 1 25 s m args below meth c g (some (.int r)) (mkS σ [] [] [(56, w_toldB), (57, w_toldC)] []) s.heap [] (entryFrame m args 4)
  rw [hf9]
  have hl := lv_entry ([.ref (g.2.1 50), .int x1, .int x2, .int x3]) (n := 4) (Nat.le_of_ble_eq_true rfl)
  generalize (lg_sl ([.ref (g.2.1 50), .int x1, .int x2, .int x3]) ++ List.replicate (4 - (lg_sl ([.ref (g.2.1 50), .int x1, .int x2, .int x3])).length) Slot.unset).toArray = ls at hl ⊢
  have hl : lv_has ls 4 [(0, .ref (g.2.1 50)), (1, .int x1), (2, .int x2), (3, .int x3)] := hl
  have hG : GW g s σ s.heap [] := ⟨hP0, va_S.rf⟩
  have hG : GW g s (mkS σ [] [] [(56, (σ.2.2.1 56)), (57, (σ.2.2.1 57))] []) s.heap [] := GW_self [] [] [56, 57] [] hG
  unfold M_put at h
  have n41 : ∀ (v_toldB : Nat → Int32) (v_toldC : Nat → Int32) (H : Heap) (locs : List Loc) (ls : Array Slot), lv_has ls 4 [] → GW g s (mkS σ [] [] [(56, v_toldB), (57, v_toldC)] []) H locs → M_put_n41 v_toldB v_toldC = some (r, w_toldB, w_toldC) → Wg p l e 1 25 s m args below meth c g (some (.int r)) (mkS σ [] [] [(56, w_toldB), (57, w_toldC)] []) H locs (F0 m 41 ls []) := by
    intro v_toldB v_toldC H locs ls hl hG h
    unfold M_put_n41 at h
    refine lv_iconst (v := (-1 : Int32)) hx hb dX9_put_41 (by decide) ?_
    cases h
    exact gx_iret hx hb hr hlocks hG dX9_put_42
  have n64 : ∀ (v_toldB : Nat → Int32) (v_toldC : Nat → Int32) (H : Heap) (locs : List Loc) (ls : Array Slot), lv_has ls 4 [] → GW g s (mkS σ [] [] [(56, v_toldB), (57, v_toldC)] []) H locs → M_put_n64 v_toldB v_toldC = some (r, w_toldB, w_toldC) → Wg p l e 1 25 s m args below meth c g (some (.int r)) (mkS σ [] [] [(56, w_toldB), (57, w_toldC)] []) H locs (F0 m 64 ls []) := by
    intro v_toldB v_toldC H locs ls hl hG h
    unfold M_put_n64 at h
    refine lv_iconst (v := (1 : Int32)) hx hb dX9_put_64 (by decide) ?_
    cases h
    exact gx_iret hx hb hr hlocks hG dX9_put_65
  refine lv_iload_n hx hb dX9_put_0 rfl (lv_at hl 1 rfl) ?_
  refine lv_i2l hx hb dX9_put_1 rfl ?_
  refine lv_lconst (v := (0 : Int64)) hx hb dX9_put_2 (by decide) ?_
  refine lv_lconst (v := (1 : Int64)) hx hb dX9_put_3 (by decide) ?_
  obtain ⟨z1, hc2, h⟩ := bnd_some h
  refine gx_cS (σ' := (mkS σ [] [] [(56, (σ.2.2.1 56)), (57, (σ.2.2.1 57))] [])) (r := (some (.int z1))) (rest := []) (As := [.long (x1.toInt64), .long (0 : Int64), .long (1 : Int64)]) hS9 (c_M_in l g (mkS σ [] [] [(56, (σ.2.2.1 56)), (57, (σ.2.2.1 57))] []) (x1.toInt64) (0 : Int64) (1 : Int64) z1 hc2) rfl (va_cwS 3 hts gX9_put_X9_in rfl rfl rfl (by decide +kernel) ⟨Nat.le_of_ble_eq_true rfl, Nat.le_of_ble_eq_true rfl⟩) hK hG rfl hl.1 rfl (Nat.le_of_ble_eq_true rfl) dX9_put_4 (fun H locs hG => ?_)
  refine W.eq (g2 := F0 m 7 ls [.int z1]) rfl ?_
  refine lv_if_eq (tgt := 41) hx hb dX9_put_7 (by decide) (fun c3 => ?_) (fun c3 => ?_)
  · have h := ite_t c3 h
    exact n41 (σ.2.2.1 56) (σ.2.2.1 57) _ _ _ (lv_sub hl [] rfl) hG h
  · have h := ite_f c3 h
    refine lv_iload_n hx hb dX9_put_10 rfl (lv_at hl 3 rfl) ?_
    refine lv_i2l hx hb dX9_put_11 rfl ?_
    refine lv_lconst (v := (0 : Int64)) hx hb dX9_put_12 (by decide) ?_
    refine lv_ldc2 hx hb hown hw0 dX9_put_13 ?_
    obtain ⟨z4, hc5, h⟩ := bnd_some h
    refine gx_cS (σ' := (mkS σ [] [] [(56, (σ.2.2.1 56)), (57, (σ.2.2.1 57))] [])) (r := (some (.int z4))) (rest := []) (As := [.long (x3.toInt64), .long (0 : Int64), .long (20 : Int64)]) hS9 (c_M_in l g (mkS σ [] [] [(56, (σ.2.2.1 56)), (57, (σ.2.2.1 57))] []) (x3.toInt64) (0 : Int64) (20 : Int64) z4 hc5) rfl (va_cwS 3 hts gX9_put_X9_in rfl rfl rfl (by decide +kernel) ⟨Nat.le_of_ble_eq_true rfl, Nat.le_of_ble_eq_true rfl⟩) hK hG rfl hl.1 rfl (Nat.le_of_ble_eq_true rfl) dX9_put_16 (fun H locs hG => ?_)
    refine W.eq (g2 := F0 m 19 ls [.int z4]) rfl ?_
    refine lv_if_eq (tgt := 41) hx hb dX9_put_19 (by decide) (fun c6 => ?_) (fun c6 => ?_)
    · have h := ite_t c6 h
      exact n41 (σ.2.2.1 56) (σ.2.2.1 57) _ _ _ (lv_sub hl [] rfl) hG h
    · have h := ite_f c6 h
      refine lv_iload_n hx hb dX9_put_22 rfl (lv_at hl 2 rfl) ?_
      refine lv_i2l hx hb dX9_put_23 rfl ?_
      refine lv_iload_n hx hb dX9_put_24 rfl (lv_at hl 1 rfl) ?_
      refine lv_i2l hx hb dX9_put_25 rfl ?_
      refine lv_aload_n hx hb dX9_put_26 rfl (lv_at hl 0 rfl) ?_
      refine gx_get (v := .int (σ.1 3208)) (C := RX9) (T := TX9) (N := 44) hx hb hts hinX9 hown hK hG (ga_50 g _) rfl 8 (by decide) hw1 rfl rfl dX9_put_27 ?_
      refine lv_iconst (v := (1 : Int32)) hx hb dX9_put_30 (by decide) ?_
      refine lv_isub hx hb dX9_put_31 ?_
      refine lv_iload_n hx hb dX9_put_32 rfl (lv_at hl 1 rfl) ?_
      refine lv_iadd hx hb dX9_put_33 ?_
      refine lv_i2l hx hb dX9_put_34 rfl ?_
      obtain ⟨z7, hc8, h⟩ := bnd_some h
      refine gx_cS (σ' := (mkS σ [] [] [(56, (σ.2.2.1 56)), (57, (σ.2.2.1 57))] [])) (r := (some (.int z7))) (rest := []) (As := [.long (x2.toInt64), .long (x1.toInt64), .long ((((σ.1 3208) - (1 : Int32)) + x1).toInt64)]) hS9 (c_M_in l g (mkS σ [] [] [(56, (σ.2.2.1 56)), (57, (σ.2.2.1 57))] []) (x2.toInt64) (x1.toInt64) ((((σ.1 3208) - (1 : Int32)) + x1).toInt64) z7 hc8) rfl (va_cwS 3 hts gX9_put_X9_in rfl rfl rfl (by decide +kernel) ⟨Nat.le_of_ble_eq_true rfl, Nat.le_of_ble_eq_true rfl⟩) hK hG rfl hl.1 rfl (Nat.le_of_ble_eq_true rfl) dX9_put_35 (fun H locs hG => ?_)
      refine W.eq (g2 := F0 m 38 ls [.int z7]) rfl ?_
      refine lv_if_ne (tgt := 43) hx hb dX9_put_38 (by decide) (fun c9 => ?_) (fun c9 => ?_)
      · have h := ite_f c9 h
        refine lv_iload_n hx hb dX9_put_43 rfl (lv_at hl 1 rfl) ?_
        refine lv_if_ne (tgt := 57) hx hb dX9_put_44 (by decide) (fun c10 => ?_) (fun c10 => ?_)
        · have h := ite_f c10 h
          refine lv_aload_n hx hb dX9_put_57 rfl (lv_at hl 0 rfl) ?_
          refine gx_get (v := .ref (g.2.1 57)) (C := RX9) (T := TX9) (N := 44) hx hb hts hinX9 hown hK hG (ga_50 g _) rfl 10 (by decide) hw2 rfl rfl dX9_put_58 ?_
          refine lv_iload_n hx hb dX9_put_61 rfl (lv_at hl 2 rfl) ?_
          refine lv_iload_n hx hb dX9_put_62 rfl (lv_at hl 3 rfl) ?_
          obtain ⟨hg11, h⟩ := gd_some h
          refine gx_iast (σ' := (mkS σ [] [] [(56, (σ.2.2.1 56)), (57, (upd (σ.2.2.1 57) (x2.toNatClampNeg) x3))] [])) (f := (σ.2.2.1 57)) hx hb hK hG (ga_57 g _) hg11 ((gs_57 g _ _).trans (congrArg (g_cells g) (mk_c 1 rfl rfl))) dX9_put_63 (fun H locs hG => ?_)
          exact n64 (σ.2.2.1 56) (upd (σ.2.2.1 57) (x2.toNatClampNeg) x3) _ _ _ (lv_sub hl [] rfl) hG h
        · have h := ite_t c10 h
          refine lv_aload_n hx hb dX9_put_47 rfl (lv_at hl 0 rfl) ?_
          refine gx_get (v := .ref (g.2.1 56)) (C := RX9) (T := TX9) (N := 44) hx hb hts hinX9 hown hK hG (ga_50 g _) rfl 9 (by decide) hw3 rfl rfl dX9_put_48 ?_
          refine lv_iload_n hx hb dX9_put_51 rfl (lv_at hl 2 rfl) ?_
          refine lv_iload_n hx hb dX9_put_52 rfl (lv_at hl 3 rfl) ?_
          obtain ⟨hg12, h⟩ := gd_some h
          refine gx_iast (σ' := (mkS σ [] [] [(56, (upd (σ.2.2.1 56) (x2.toNatClampNeg) x3)), (57, (σ.2.2.1 57))] [])) (f := (σ.2.2.1 56)) hx hb hK hG (ga_56 g _) hg12 ((gs_56 g _ _).trans (congrArg (g_cells g) (mk_c 0 rfl rfl))) dX9_put_53 (fun H locs hG => ?_)
          refine lv_goto (tgt := 64) hx hb dX9_put_54 (by decide) ?_
          exact n64 (upd (σ.2.2.1 56) (x2.toNatClampNeg) x3) (σ.2.2.1 57) _ _ _ (lv_sub hl [] rfl) hG h
      · have h := ite_t c9 h
        exact n41 (σ.2.2.1 56) (σ.2.2.1 57) _ _ _ (lv_sub hl [] rfl) hG h

set_option maxHeartbeats 4000000 in
set_option maxRecDepth 100000 in
theorem c_M_road (l : Launch) (g : GC) (σ : St) (x1 : Int32) (x2 : Int32) (x3 : Int32) (r : Int32) (w_areKindsFound : Int32) (w_isMeasured : Int32) (w_road : Nat → Int32) (h : M_road x1 x2 x3 (σ.1 3238) (σ.1 3212) (σ.1 3203) (σ.2.2.1 54) = some (r, w_areKindsFound, w_isMeasured, w_road)) : Cn l g yX9_road wsX9_road 2 46 [.ref (g.2.1 50), .int x1, .int x2, .int x3] σ (some (.int r)) (mkS σ [(3238, w_areKindsFound), (3212, w_isMeasured)] [] [(54, w_road)] []) := by
  unfold Cn
  refine Met.ofW (cc := cX9_road) (maxL := 4) (ret := (some .int)) (by decide) rfl ?_
  intro p e s m args below meth c s₁ B hml hv
  obtain ⟨hargs, hP0, hK⟩ := hv
  have hx := B.exec
  have hb := B.bytes
  have hr := B.returns
  have hts := atoms_spec (ws := wsX9_road) B.pre
  have hown : s.vm.findClass RX9 = some m.cls := findClass_of_methodNamed B.named
  have hlocks := B.notSynchronized
  have hS9 : CallFix p m c cX9_road 4 s args wsX9_road RX9 := ⟨hx, hb, hml, hown, hts⟩
  have hf9 : entryFrame m args 4 = _ := (congrArg (fun a => entryFrame m a 4) hargs).trans (lg_entry_eq m [.ref (g.2.1 50), .int x1, .int x2, .int x3] 4)
  show Wg p l e 2 46 s m args below meth c g (some (.int r)) (mkS σ [(3238, w_areKindsFound), (3212, w_isMeasured)] [] [(54, w_road)] []) s.heap [] (entryFrame m args 4)
  rw [hf9]
  have hl := lv_entry ([.ref (g.2.1 50), .int x1, .int x2, .int x3]) (n := 4) (Nat.le_of_ble_eq_true rfl)
  generalize (lg_sl ([.ref (g.2.1 50), .int x1, .int x2, .int x3]) ++ List.replicate (4 - (lg_sl ([.ref (g.2.1 50), .int x1, .int x2, .int x3])).length) Slot.unset).toArray = ls at hl ⊢
  have hl : lv_has ls 4 [(0, .ref (g.2.1 50)), (1, .int x1), (2, .int x2), (3, .int x3)] := hl
  have hG : GW g s σ s.heap [] := ⟨hP0, va_S.rf⟩
  have hG : GW g s (mkS σ [(3238, (σ.1 3238)), (3212, (σ.1 3212))] [] [(54, (σ.2.2.1 54))] []) s.heap [] := GW_self [3238, 3212] [] [54] [] hG
  unfold M_road at h
  have n21 : ∀ (v_areKindsFound : Int32) (v_isMeasured : Int32) (v_road : Nat → Int32) (H : Heap) (locs : List Loc) (ls : Array Slot), lv_has ls 4 [] → GW g s (mkS σ [(3238, v_areKindsFound), (3212, v_isMeasured)] [] [(54, v_road)] []) H locs → M_road_n21 v_areKindsFound v_isMeasured v_road = some (r, w_areKindsFound, w_isMeasured, w_road) → Wg p l e 2 46 s m args below meth c g (some (.int r)) (mkS σ [(3238, w_areKindsFound), (3212, w_isMeasured)] [] [(54, w_road)] []) H locs (F0 m 21 ls []) := by
    intro v_areKindsFound v_isMeasured v_road H locs ls hl hG h
    unfold M_road_n21 at h
    refine lv_iconst (v := (-1 : Int32)) hx hb dX9_road_21 (by decide) ?_
    cases h
    exact gx_iret hx hb hr hlocks hG dX9_road_22
  have n38 : ∀ (t0 : Int32) (v_areKindsFound : Int32) (v_isMeasured : Int32) (v_road : Nat → Int32) (H : Heap) (locs : List Loc) (ls : Array Slot), lv_has ls 4 [] → GW g s (mkS σ [(3238, v_areKindsFound), (3212, v_isMeasured)] [] [(54, v_road)] []) H locs → M_road_n38 t0 v_areKindsFound v_isMeasured v_road = some (r, w_areKindsFound, w_isMeasured, w_road) → Wg p l e 2 46 s m args below meth c g (some (.int r)) (mkS σ [(3238, w_areKindsFound), (3212, w_isMeasured)] [] [(54, w_road)] []) H locs (F0 m 38 ls [.int t0]) := by
    intro t0 v_areKindsFound v_isMeasured v_road H locs ls hl hG h
    unfold M_road_n38 at h
    cases h
    exact gx_iret hx hb hr hlocks hG dX9_road_38
  refine lv_aload_n hx hb dX9_road_0 rfl (lv_at hl 0 rfl) ?_
  refine lv_iload_n hx hb dX9_road_1 rfl (lv_at hl 1 rfl) ?_
  obtain ⟨z1, hc2, h⟩ := bnd_some h
  refine gx_cV (σ' := (mkS σ [(3238, (σ.1 3238)), (3212, (σ.1 3212))] [] [(54, (σ.2.2.1 54))] [])) (r := (some (.int z1))) (rest := []) (As := [.int x1]) hS9 (c_M_isPost l g (mkS σ [(3238, (σ.1 3238)), (3212, (σ.1 3212))] [] [(54, (σ.2.2.1 54))] []) x1 z1 hc2) rfl (cwV 1 hts gX9_road_X9_isPost rfl rfl rfl (by decide +kernel) ⟨Nat.le_of_ble_eq_true rfl, Nat.le_of_ble_eq_true rfl⟩) hK hG (ga_50 g _) rfl rfl rfl hl.1 rfl (Nat.le_of_ble_eq_true rfl) dX9_road_2 (fun H locs hG => ?_)
  refine W.eq (g2 := F0 m 5 ls [.int z1]) rfl ?_
  refine lv_if_eq (tgt := 21) hx hb dX9_road_5 (by decide) (fun c3 => ?_) (fun c3 => ?_)
  · have h := ite_t c3 h
    exact n21 (σ.1 3238) (σ.1 3212) (σ.2.2.1 54) _ _ _ (lv_sub hl [] rfl) hG h
  · have h := ite_f c3 h
    refine lv_aload_n hx hb dX9_road_8 rfl (lv_at hl 0 rfl) ?_
    refine lv_iload_n hx hb dX9_road_9 rfl (lv_at hl 2 rfl) ?_
    obtain ⟨z4, hc5, h⟩ := bnd_some h
    refine gx_cV (σ' := (mkS σ [(3238, (σ.1 3238)), (3212, (σ.1 3212))] [] [(54, (σ.2.2.1 54))] [])) (r := (some (.int z4))) (rest := []) (As := [.int x2]) hS9 (c_M_isPost l g (mkS σ [(3238, (σ.1 3238)), (3212, (σ.1 3212))] [] [(54, (σ.2.2.1 54))] []) x2 z4 hc5) rfl (cwV 1 hts gX9_road_X9_isPost rfl rfl rfl (by decide +kernel) ⟨Nat.le_of_ble_eq_true rfl, Nat.le_of_ble_eq_true rfl⟩) hK hG (ga_50 g _) rfl rfl rfl hl.1 rfl (Nat.le_of_ble_eq_true rfl) dX9_road_10 (fun H locs hG => ?_)
    refine W.eq (g2 := F0 m 13 ls [.int z4]) rfl ?_
    refine lv_if_eq (tgt := 21) hx hb dX9_road_13 (by decide) (fun c6 => ?_) (fun c6 => ?_)
    · have h := ite_t c6 h
      exact n21 (σ.1 3238) (σ.1 3212) (σ.2.2.1 54) _ _ _ (lv_sub hl [] rfl) hG h
    · have h := ite_f c6 h
      refine lv_iload_n hx hb dX9_road_16 rfl (lv_at hl 1 rfl) ?_
      refine lv_iload_n hx hb dX9_road_17 rfl (lv_at hl 2 rfl) ?_
      refine lv_icmp_ne (tgt := 23) hx hb dX9_road_18 (by decide) (fun c7 => ?_) (fun c7 => ?_)
      · have h := ite_f c7 h
        refine lv_aload_n hx hb dX9_road_23 rfl (lv_at hl 0 rfl) ?_
        refine lv_iload_n hx hb dX9_road_24 rfl (lv_at hl 1 rfl) ?_
        refine lv_iload_n hx hb dX9_road_25 rfl (lv_at hl 2 rfl) ?_
        refine lv_iload_n hx hb dX9_road_26 rfl (lv_at hl 3 rfl) ?_
        obtain ⟨z8, hc9, h⟩ := bnd_some h
        refine gx_cV (σ' := (mkS σ [(3238, z8.2.1), (3212, z8.2.2.1)] [] [(54, z8.2.2.2)] [])) (r := (some (.int z8.1))) (rest := []) (As := [.int x1, .int x2, .int x3]) hS9 (c_M_lay l g (mkS σ [(3238, (σ.1 3238)), (3212, (σ.1 3212))] [] [(54, (σ.2.2.1 54))] []) x1 x2 x3 z8.1 z8.2.1 z8.2.2.1 z8.2.2.2 hc9) (mk_mk rfl rfl rfl rfl) (cwV 3 hts gX9_road_X9_lay rfl rfl rfl (by decide +kernel) ⟨Nat.le_of_ble_eq_true rfl, Nat.le_of_ble_eq_true rfl⟩) hK hG (ga_50 g _) rfl rfl rfl hl.1 rfl (Nat.le_of_ble_eq_true rfl) dX9_road_27 (fun H locs hG => ?_)
        refine W.eq (g2 := F0 m 30 ls [.int z8.1]) rfl ?_
        refine lv_if_eq (tgt := 37) hx hb dX9_road_30 (by decide) (fun c10 => ?_) (fun c10 => ?_)
        · have h := ite_t c10 h
          refine lv_iconst (v := (0 : Int32)) hx hb dX9_road_37 (by decide) ?_
          exact n38 (0 : Int32) z8.2.1 z8.2.2.1 z8.2.2.2 _ _ _ (lv_sub hl [] rfl) hG h
        · have h := ite_f c10 h
          refine lv_iconst (v := (1 : Int32)) hx hb dX9_road_33 (by decide) ?_
          refine lv_goto (tgt := 38) hx hb dX9_road_34 (by decide) ?_
          exact n38 (1 : Int32) z8.2.1 z8.2.2.1 z8.2.2.2 _ _ _ (lv_sub hl [] rfl) hG h
      · have h := ite_t c7 h
        exact n21 (σ.1 3238) (σ.1 3212) (σ.2.2.1 54) _ _ _ (lv_sub hl [] rfl) hG h

set_option maxHeartbeats 4000000 in
set_option maxRecDepth 100000 in
theorem c_M_root (l : Launch) (g : GC) (σ : St) (x1 : Int32) (x2 : Int32) (r : Int32) (w_all : Int64) (w_sizes : Nat → Int64) (w_third : Nat → Int64) (w_u : Nat → Int64) (h : M_root x1 x2 (σ.1 3208) (σ.2.1 3224) (σ.2.2.1 56) (σ.2.2.1 57) (σ.2.2.2 65) (σ.2.2.2 66) (σ.2.2.2 67) = some (r, w_all, w_sizes, w_third, w_u)) : Cn l g yX9_root wsX9_root 3 69 [.ref (g.2.1 50), .int x1, .int x2] σ (some (.int r)) (mkS σ [] [(3224, w_all)] [] [(65, w_sizes), (66, w_third), (67, w_u)]) := by
  unfold Cn
  refine Met.ofW (cc := cX9_root) (maxL := 5) (ret := (some .int)) (by decide) rfl ?_
  intro p e s m args below meth c s₁ B hml hv
  obtain ⟨hargs, hP0, hK⟩ := hv
  have hx := B.exec
  have hb := B.bytes
  have hr := B.returns
  have hts := atoms_spec (ws := wsX9_root) B.pre
  have hown : s.vm.findClass RX9 = some m.cls := findClass_of_methodNamed B.named
  have hlocks := B.notSynchronized
  have hS9 : CallFix p m c cX9_root 5 s args wsX9_root RX9 := ⟨hx, hb, hml, hown, hts⟩
  have hinX9 : ∀ w ∈ wsX90, w ∈ wsX9_root := fun w h => List.mem_cons_of_mem _ (List.mem_append_right _ (h))
  have hw0 := hts (.fieldLink RX9 30 "LikeNetsModel" "toldB" "[I") (List.mem_of_getElem? (i := 1) rfl)
  have hf9 : entryFrame m args 5 = _ := (congrArg (fun a => entryFrame m a 5) hargs).trans (lg_entry_eq m [.ref (g.2.1 50), .int x1, .int x2] 5)
  show Wg p l e 3 69 s m args below meth c g (some (.int r)) (mkS σ [] [(3224, w_all)] [] [(65, w_sizes), (66, w_third), (67, w_u)]) s.heap [] (entryFrame m args 5)
  rw [hf9]
  have hl := lv_entry ([.ref (g.2.1 50), .int x1, .int x2]) (n := 5) (Nat.le_of_ble_eq_true rfl)
  generalize (lg_sl ([.ref (g.2.1 50), .int x1, .int x2]) ++ List.replicate (5 - (lg_sl ([.ref (g.2.1 50), .int x1, .int x2])).length) Slot.unset).toArray = ls at hl ⊢
  have hl : lv_has ls 5 [(0, .ref (g.2.1 50)), (1, .int x1), (2, .int x2)] := hl
  have hG : GW g s σ s.heap [] := ⟨hP0, va_S.rf⟩
  have hG : GW g s (mkS σ [] [(3224, (σ.2.1 3224))] [] [(65, (σ.2.2.2 65)), (66, (σ.2.2.2 66)), (67, (σ.2.2.2 67))]) s.heap [] := GW_self [] [3224] [] [65, 66, 67] hG
  unfold M_root at h
  have n73 : ∀ (t0 : Int32) (v_all : Int64) (v_sizes : Nat → Int64) (v_third : Nat → Int64) (v_u : Nat → Int64) (H : Heap) (locs : List Loc) (ls : Array Slot), lv_has ls 5 [] → GW g s (mkS σ [] [(3224, v_all)] [] [(65, v_sizes), (66, v_third), (67, v_u)]) H locs → M_root_n73 t0 v_all v_sizes v_third v_u = some (r, w_all, w_sizes, w_third, w_u) → Wg p l e 3 69 s m args below meth c g (some (.int r)) (mkS σ [] [(3224, w_all)] [] [(65, w_sizes), (66, w_third), (67, w_u)]) H locs (F0 m 73 ls [.int t0]) := by
    intro t0 v_all v_sizes v_third v_u H locs ls hl hG h
    unfold M_root_n73 at h
    cases h
    exact gx_iret hx hb hr hlocks hG dX9_root_73
  have n60 : ∀ (x2 : Int32) (x4 : Int32) (v_all : Int64) (v_sizes : Nat → Int64) (v_third : Nat → Int64) (v_u : Nat → Int64) (H : Heap) (locs : List Loc) (ls : Array Slot), lv_has ls 5 [(0, .ref (g.2.1 50)), (2, .int x2), (4, .int x4)] → GW g s (mkS σ [] [(3224, v_all)] [] [(65, v_sizes), (66, v_third), (67, v_u)]) H locs → M_root_n60 (σ.1 3208) (σ.2.2.1 56) x2 x4 v_all v_sizes v_third v_u = some (r, w_all, w_sizes, w_third, w_u) → Wg p l e 3 69 s m args below meth c g (some (.int r)) (mkS σ [] [(3224, w_all)] [] [(65, w_sizes), (66, w_third), (67, w_u)]) H locs (F0 m 60 ls []) := by
    intro x2 x4 v_all v_sizes v_third v_u H locs ls hl hG h
    unfold M_root_n60 at h
    refine lv_iload_n hx hb dX9_root_60 rfl (lv_at hl 1 rfl) ?_
    refine lv_if_ne (tgt := 69) hx hb dX9_root_61 (by decide) (fun c1 => ?_) (fun c1 => ?_)
    · have h := ite_f c1 h
      refine lv_aload_n hx hb dX9_root_69 rfl (lv_at hl 0 rfl) ?_
      obtain ⟨z2, hc3, h⟩ := bnd_some h
      refine gx_cV (σ' := (mkS σ [] [(3224, v_all)] [] [(65, v_sizes), (66, v_third), (67, v_u)])) (r := (some (.int z2))) (rest := []) (As := []) hS9 (c_M_times l g (mkS σ [] [(3224, v_all)] [] [(65, v_sizes), (66, v_third), (67, v_u)]) z2 hc3) rfl (cwV 0 hts gX9_root_X9_times rfl rfl rfl (by decide +kernel) ⟨Nat.le_of_ble_eq_true rfl, Nat.le_of_ble_eq_true rfl⟩) hK hG (ga_50 g _) rfl rfl rfl hl.1 rfl (Nat.le_of_ble_eq_true rfl) dX9_root_70 (fun H locs hG => ?_)
      refine W.eq (g2 := F0 m 73 ls [.int z2]) rfl ?_
      exact n73 z2 v_all v_sizes v_third v_u _ _ _ (lv_sub hl [] rfl) hG h
    · have h := ite_t c1 h
      refine lv_iload hx hb dX9_root_64 (lv_at hl 2 rfl) ?_
      refine lv_goto (tgt := 73) hx hb dX9_root_66 (by decide) ?_
      exact n73 x4 v_all v_sizes v_third v_u _ _ _ (lv_sub hl [] rfl) hG h
  have n77 : ∀ (k35 : Int32 → Int32 → Int32 → Int64 → (Nat → Int64) → (Nat → Int64) → (Nat → Int64) → Option (Int32 × Int64 × (Nat → Int64) × (Nat → Int64) × (Nat → Int64))) (hk35 : ∀ (x2 : Int32) (x3 : Int32) (x4 : Int32) (v_all : Int64) (v_sizes : Nat → Int64) (v_third : Nat → Int64) (v_u : Nat → Int64) (H : Heap) (locs : List Loc) (ls : Array Slot), lv_has ls 5 [(0, .ref (g.2.1 50)), (2, .int x2), (3, .int x3), (4, .int x4)] → GW g s (mkS σ [] [(3224, v_all)] [] [(65, v_sizes), (66, v_third), (67, v_u)]) H locs → k35 x2 x3 x4 v_all v_sizes v_third v_u = some (r, w_all, w_sizes, w_third, w_u) → Wg p l e 3 69 s m args below meth c g (some (.int r)) (mkS σ [] [(3224, w_all)] [] [(65, w_sizes), (66, w_third), (67, w_u)]) H locs (F0 m 35 ls [])) (x2 : Int32) (x3 : Int32) (x4 : Int32) (v_all : Int64) (v_sizes : Nat → Int64) (v_third : Nat → Int64) (v_u : Nat → Int64) (H : Heap) (locs : List Loc) (ls : Array Slot), lv_has ls 5 [(0, .ref (g.2.1 50)), (2, .int x2), (3, .int x3), (4, .int x4)] → GW g s (mkS σ [] [(3224, v_all)] [] [(65, v_sizes), (66, v_third), (67, v_u)]) H locs → M_root_n77 k35 x2 x3 x4 v_all v_sizes v_third v_u = some (r, w_all, w_sizes, w_third, w_u) → Wg p l e 3 69 s m args below meth c g (some (.int r)) (mkS σ [] [(3224, w_all)] [] [(65, w_sizes), (66, w_third), (67, w_u)]) H locs (F0 m 77 ls []) := by
    intro k35 hk35 x2 x3 x4 v_all v_sizes v_third v_u H locs ls hl hG h
    unfold M_root_n77 at h
    refine lv_iinc (v := (x4 + (-1 : Int32))) (lv' := [(4, .int (x4 + (-1 : Int32))), (0, .ref (g.2.1 50)), (2, .int x2), (3, .int x3)]) hx hb dX9_root_77 hl (k := 3) rfl (congrArg (fun z => x4 + z) (by decide)) (Nat.le_of_ble_eq_true rfl) rfl (fun ls hl => ?_)
    refine lv_goto (tgt := 35) hx hb dX9_root_80 (by decide) ?_
    exact hk35 x2 x3 (x4 + (-1 : Int32)) v_all v_sizes v_third v_u _ _ _ (lv_sub hl [1, 2, 3, 0] rfl) hG h
  have n83 : ∀ (v_all : Int64) (v_sizes : Nat → Int64) (v_third : Nat → Int64) (v_u : Nat → Int64) (H : Heap) (locs : List Loc) (ls : Array Slot), lv_has ls 5 [] → GW g s (mkS σ [] [(3224, v_all)] [] [(65, v_sizes), (66, v_third), (67, v_u)]) H locs → M_root_n83 v_all v_sizes v_third v_u = some (r, w_all, w_sizes, w_third, w_u) → Wg p l e 3 69 s m args below meth c g (some (.int r)) (mkS σ [] [(3224, w_all)] [] [(65, w_sizes), (66, w_third), (67, w_u)]) H locs (F0 m 83 ls []) := by
    intro v_all v_sizes v_third v_u H locs ls hl hG h
    unfold M_root_n83 at h
    refine lv_sipush (v := (-1002 : Int32)) hx hb dX9_root_83 (by decide) ?_
    cases h
    exact gx_iret hx hb hr hlocks hG dX9_root_86
  have n35 : ∀ (k35 : Int32 → Int32 → Int32 → Int64 → (Nat → Int64) → (Nat → Int64) → (Nat → Int64) → Option (Int32 × Int64 × (Nat → Int64) × (Nat → Int64) × (Nat → Int64))) (hk35 : ∀ (x2 : Int32) (x3 : Int32) (x4 : Int32) (v_all : Int64) (v_sizes : Nat → Int64) (v_third : Nat → Int64) (v_u : Nat → Int64) (H : Heap) (locs : List Loc) (ls : Array Slot), lv_has ls 5 [(0, .ref (g.2.1 50)), (2, .int x2), (3, .int x3), (4, .int x4)] → GW g s (mkS σ [] [(3224, v_all)] [] [(65, v_sizes), (66, v_third), (67, v_u)]) H locs → k35 x2 x3 x4 v_all v_sizes v_third v_u = some (r, w_all, w_sizes, w_third, w_u) → Wg p l e 3 69 s m args below meth c g (some (.int r)) (mkS σ [] [(3224, w_all)] [] [(65, w_sizes), (66, w_third), (67, w_u)]) H locs (F0 m 35 ls [])) (x2 : Int32) (x3 : Int32) (x4 : Int32) (v_all : Int64) (v_sizes : Nat → Int64) (v_third : Nat → Int64) (v_u : Nat → Int64) (H : Heap) (locs : List Loc) (ls : Array Slot), lv_has ls 5 [(0, .ref (g.2.1 50)), (2, .int x2), (3, .int x3), (4, .int x4)] → GW g s (mkS σ [] [(3224, v_all)] [] [(65, v_sizes), (66, v_third), (67, v_u)]) H locs → M_root_n35 k35 (σ.1 3208) (σ.2.2.1 56) (σ.2.2.1 57) x2 x3 x4 v_all v_sizes v_third v_u = some (r, w_all, w_sizes, w_third, w_u) → Wg p l e 3 69 s m args below meth c g (some (.int r)) (mkS σ [] [(3224, w_all)] [] [(65, w_sizes), (66, w_third), (67, w_u)]) H locs (F0 m 35 ls []) := by
    intro k35 hk35 x2 x3 x4 v_all v_sizes v_third v_u H locs ls hl hG h
    unfold M_root_n35 at h
    refine lv_iload hx hb dX9_root_35 (lv_at hl 3 rfl) ?_
    refine lv_aload_n hx hb dX9_root_37 rfl (lv_at hl 0 rfl) ?_
    refine gx_get (v := .ref (g.2.1 56)) (C := RX9) (T := TX9) (N := 44) hx hb hts hinX9 hown hK hG (ga_50 g _) rfl 9 (by decide) hw0 rfl rfl dX9_root_38 ?_
    refine lv_iconst (v := (0 : Int32)) hx hb dX9_root_41 (by decide) ?_
    refine gx_iald (f := (σ.2.2.1 56)) hx hb hK hG (ga_56 g _) (by decide) dX9_root_42 ?_
    refine lv_ineg hx hb dX9_root_43 ?_
    refine lv_icmp_lt (tgt := 83) hx hb dX9_root_44 (by decide) (fun c4 => ?_) (fun c4 => ?_)
    · have h := ite_t c4 h
      exact n83 v_all v_sizes v_third v_u _ _ _ (lv_sub hl [] rfl) hG h
    · have h := ite_f c4 h
      refine lv_aload_n hx hb dX9_root_47 rfl (lv_at hl 0 rfl) ?_
      refine lv_iload hx hb dX9_root_48 (lv_at hl 3 rfl) ?_
      obtain ⟨z5, hc6, h⟩ := bnd_some h
      refine gx_cV (σ' := (mkS σ [] [(3224, v_all)] [] [(65, v_sizes), (66, v_third), (67, z5.2)])) (r := (some (.int z5.1))) (rest := []) (As := [.int x4]) hS9 (c_M_isRoot l g (mkS σ [] [(3224, v_all)] [] [(65, v_sizes), (66, v_third), (67, v_u)]) x4 z5.1 z5.2 hc6) (mk_mk rfl rfl rfl rfl) (cwV 1 hts gX9_root_X9_isRoot rfl rfl rfl (by decide +kernel) ⟨Nat.le_of_ble_eq_true rfl, Nat.le_of_ble_eq_true rfl⟩) hK hG (ga_50 g _) rfl rfl rfl hl.1 rfl (Nat.le_of_ble_eq_true rfl) dX9_root_50 (fun H locs hG => ?_)
      refine W.eq (g2 := F0 m 53 ls [.int z5.1]) rfl ?_
      refine lv_if_eq (tgt := 77) hx hb dX9_root_53 (by decide) (fun c7 => ?_) (fun c7 => ?_)
      · have h := ite_t c7 h
        exact n77 k35 hk35 x2 x3 x4 v_all v_sizes v_third z5.2 _ _ _ (lv_sub hl [0, 1, 2, 3] rfl) hG h
      · have h := ite_f c7 h
        refine lv_iload_n hx hb dX9_root_56 rfl (lv_at hl 2 rfl) ?_
        refine lv_if_ne (tgt := 74) hx hb dX9_root_57 (by decide) (fun c8 => ?_) (fun c8 => ?_)
        · have h := ite_f c8 h
          refine lv_iinc (v := (x3 + (-1 : Int32))) (lv' := [(3, .int (x3 + (-1 : Int32))), (0, .ref (g.2.1 50)), (2, .int x2), (4, .int x4)]) hx hb dX9_root_74 hl (k := 2) rfl (congrArg (fun z => x3 + z) (by decide)) (Nat.le_of_ble_eq_true rfl) rfl (fun ls hl => ?_)
          exact n77 k35 hk35 x2 (x3 + (-1 : Int32)) x4 v_all v_sizes v_third z5.2 _ _ _ (lv_sub hl [1, 2, 0, 3] rfl) hG h
        · have h := ite_t c8 h
          exact n60 x2 x4 v_all v_sizes v_third z5.2 _ _ _ (lv_sub hl [0, 1, 3] rfl) hG h
  have l35 : ∀  (F : Nat) (x2 : Int32) (x3 : Int32) (x4 : Int32) (v_all : Int64) (v_sizes : Nat → Int64) (v_third : Nat → Int64) (v_u : Nat → Int64) (H : Heap) (locs : List Loc) (ls : Array Slot), lv_has ls 5 [(0, .ref (g.2.1 50)), (2, .int x2), (3, .int x3), (4, .int x4)] → GW g s (mkS σ [] [(3224, v_all)] [] [(65, v_sizes), (66, v_third), (67, v_u)]) H locs → M_root_l35 (σ.1 3208) (σ.2.2.1 56) (σ.2.2.1 57) F x2 x3 x4 v_all v_sizes v_third v_u = some (r, w_all, w_sizes, w_third, w_u) → Wg p l e 3 69 s m args below meth c g (some (.int r)) (mkS σ [] [(3224, w_all)] [] [(65, w_sizes), (66, w_third), (67, w_u)]) H locs (F0 m 35 ls []) := by
    intro F
    induction F with
    | zero => intro x2 x3 x4 v_all v_sizes v_third v_u H locs ls hl hG h; exact no_some h
    | succ F ih => intro x2 x3 x4 v_all v_sizes v_third v_u H locs ls hl hG h; exact n35 (fun x2 x3 x4 v_all v_sizes v_third v_u => M_root_l35 (σ.1 3208) (σ.2.2.1 56) (σ.2.2.1 57) F x2 x3 x4 v_all v_sizes v_third v_u) ih x2 x3 x4 v_all v_sizes v_third v_u H locs ls hl hG h
  refine lv_iload_n hx hb dX9_root_0 rfl (lv_at hl 2 rfl) ?_
  refine lv_i2l hx hb dX9_root_1 rfl ?_
  refine lv_lconst (v := (0 : Int64)) hx hb dX9_root_2 (by decide) ?_
  refine lv_lconst (v := (1 : Int64)) hx hb dX9_root_3 (by decide) ?_
  obtain ⟨z9, hc10, h⟩ := bnd_some h
  refine gx_cS (σ' := (mkS σ [] [(3224, (σ.2.1 3224))] [] [(65, (σ.2.2.2 65)), (66, (σ.2.2.2 66)), (67, (σ.2.2.2 67))])) (r := (some (.int z9))) (rest := []) (As := [.long (x2.toInt64), .long (0 : Int64), .long (1 : Int64)]) hS9 (c_M_in l g (mkS σ [] [(3224, (σ.2.1 3224))] [] [(65, (σ.2.2.2 65)), (66, (σ.2.2.2 66)), (67, (σ.2.2.2 67))]) (x2.toInt64) (0 : Int64) (1 : Int64) z9 hc10) rfl (va_cwS 3 hts gX9_root_X9_in rfl rfl rfl (by decide +kernel) ⟨Nat.le_of_ble_eq_true rfl, Nat.le_of_ble_eq_true rfl⟩) hK hG rfl hl.1 rfl (Nat.le_of_ble_eq_true rfl) dX9_root_4 (fun H locs hG => ?_)
  refine W.eq (g2 := F0 m 7 ls [.int z9]) rfl ?_
  refine lv_if_ne (tgt := 14) hx hb dX9_root_7 (by decide) (fun c11 => ?_) (fun c11 => ?_)
  · have h := ite_f c11 h
    refine lv_aload_n hx hb dX9_root_14 rfl (lv_at hl 0 rfl) ?_
    obtain ⟨z12, hc13, h⟩ := bnd_some h
    refine gx_cV (σ' := (mkS σ [] [(3224, z12.2.1)] [] [(65, z12.2.2.1), (66, z12.2.2.2), (67, (σ.2.2.2 67))])) (r := (some (.int z12.1))) (rest := []) (As := []) hS9 (c_M_laws l g (mkS σ [] [(3224, (σ.2.1 3224))] [] [(65, (σ.2.2.2 65)), (66, (σ.2.2.2 66)), (67, (σ.2.2.2 67))]) z12.1 z12.2.1 z12.2.2.1 z12.2.2.2 hc13) (mk_mk rfl rfl rfl rfl) (cwV 0 hts gX9_root_X9_laws rfl rfl rfl (by decide +kernel) ⟨Nat.le_of_ble_eq_true rfl, Nat.le_of_ble_eq_true rfl⟩) hK hG (ga_50 g _) rfl rfl rfl hl.1 rfl (Nat.le_of_ble_eq_true rfl) dX9_root_15 (fun H locs hG => ?_)
    refine W.eq (g2 := F0 m 18 ls [.int z12.1]) rfl ?_
    refine lv_if_le (tgt := 25) hx hb dX9_root_18 (by decide) (fun c14 => ?_) (fun c14 => ?_)
    · have h := ite_t c14 h
      refine lv_iload_n hx hb dX9_root_25 rfl (lv_at hl 1 rfl) ?_
      refine lv_istore_n (lv' := [(3, .int x1), (0, .ref (g.2.1 50)), (1, .int x1), (2, .int x2)]) hx hb dX9_root_26 rfl hl (Nat.le_of_ble_eq_true rfl) rfl (fun ls hl => ?_)
      refine lv_aload_n hx hb dX9_root_27 rfl (lv_at hl 1 rfl) ?_
      refine gx_get (v := .ref (g.2.1 56)) (C := RX9) (T := TX9) (N := 44) hx hb hts hinX9 hown hK hG (ga_50 g _) rfl 9 (by decide) hw0 rfl rfl dX9_root_28 ?_
      refine lv_iconst (v := (0 : Int32)) hx hb dX9_root_31 (by decide) ?_
      refine gx_iald (f := (σ.2.2.1 56)) hx hb hK hG (ga_56 g _) (by decide) dX9_root_32 ?_
      refine lv_istore (lv' := [(4, .int ((σ.2.2.1 56) ((0 : Int32).toNatClampNeg))), (3, .int x1), (0, .ref (g.2.1 50)), (1, .int x1), (2, .int x2)]) hx hb dX9_root_33 hl (Nat.le_of_ble_eq_true rfl) rfl (fun ls hl => ?_)
      exact l35 FUEL x2 x1 ((σ.2.2.1 56) ((0 : Int32).toNatClampNeg)) z12.2.1 z12.2.2.1 z12.2.2.2 (σ.2.2.2 67) _ _ _ (lv_sub hl [2, 4, 1, 0] rfl) hG h
    · have h := ite_f c14 h
      refine lv_sipush (v := (-1001 : Int32)) hx hb dX9_root_21 (by decide) ?_
      cases h
      exact gx_iret hx hb hr hlocks hG dX9_root_24
  · have h := ite_t c11 h
    refine lv_sipush (v := (-1000 : Int32)) hx hb dX9_root_10 (by decide) ?_
    cases h
    exact gx_iret hx hb hr hlocks hG dX9_root_13

set_option maxHeartbeats 4000000 in
set_option maxRecDepth 100000 in
theorem c_M_sheet (l : Launch) (g : GC) (σ : St) (x1 : Int32) (x2 : Int32) (x3 : Int32) (r : Int32) (w_cellOf : Nat → Int32) (w_sheetKind : Nat → Int32) (w_sheetSize : Nat → Int32) (h : M_sheet x1 x2 x3 (σ.2.2.1 53) (σ.2.2.1 51) (σ.2.2.1 52) = some (r, w_cellOf, w_sheetKind, w_sheetSize)) : Cn l g yX9_sheet wsX9_sheet 2 45 [.ref (g.2.1 50), .int x1, .int x2, .int x3] σ (some (.int r)) (mkS σ [] [] [(53, w_cellOf), (51, w_sheetKind), (52, w_sheetSize)] []) := by
  unfold Cn
  refine Met.ofW (cc := cX9_sheet) (maxL := 5) (ret := (some .int)) (by decide) rfl ?_
  intro p e s m args below meth c s₁ B hml hv
  obtain ⟨hargs, hP0, hK⟩ := hv
  have hx := B.exec
  have hb := B.bytes
  have hr := B.returns
  have hts := atoms_spec (ws := wsX9_sheet) B.pre
  have hown : s.vm.findClass RX9 = some m.cls := findClass_of_methodNamed B.named
  have hlocks := B.notSynchronized
  have hS9 : CallFix p m c cX9_sheet 5 s args wsX9_sheet RX9 := ⟨hx, hb, hml, hown, hts⟩
  have hinX9 : ∀ w ∈ wsX90, w ∈ wsX9_sheet := fun w h => List.mem_cons_of_mem _ (List.mem_append_right _ (h))
  have hw0 := hts (.fieldLink RX9 16 "LikeNetsModel" "cellOf" "[I") (List.mem_of_getElem? (i := 4) rfl)
  have hw1 := hts (.constantLong RX9 123 (2)) (List.mem_of_getElem? (i := 1) rfl)
  have hw2 := hts (.fieldLink RX9 7 "LikeNetsModel" "sheetKind" "[I") (List.mem_of_getElem? (i := 2) rfl)
  have hw3 := hts (.fieldLink RX9 13 "LikeNetsModel" "sheetSize" "[I") (List.mem_of_getElem? (i := 3) rfl)
  have hf9 : entryFrame m args 5 = _ := (congrArg (fun a => entryFrame m a 5) hargs).trans (lg_entry_eq m [.ref (g.2.1 50), .int x1, .int x2, .int x3] 5)
  show Wg p l e 2 45 s m args below meth c g (some (.int r)) (mkS σ [] [] [(53, w_cellOf), (51, w_sheetKind), (52, w_sheetSize)] []) s.heap [] (entryFrame m args 5)
  rw [hf9]
  have hl := lv_entry ([.ref (g.2.1 50), .int x1, .int x2, .int x3]) (n := 5) (Nat.le_of_ble_eq_true rfl)
  generalize (lg_sl ([.ref (g.2.1 50), .int x1, .int x2, .int x3]) ++ List.replicate (5 - (lg_sl ([.ref (g.2.1 50), .int x1, .int x2, .int x3])).length) Slot.unset).toArray = ls at hl ⊢
  have hl : lv_has ls 5 [(0, .ref (g.2.1 50)), (1, .int x1), (2, .int x2), (3, .int x3)] := hl
  have hG : GW g s σ s.heap [] := ⟨hP0, va_S.rf⟩
  have hG : GW g s (mkS σ [] [] [(53, (σ.2.2.1 53)), (51, (σ.2.2.1 51)), (52, (σ.2.2.1 52))] []) s.heap [] := GW_self [] [] [53, 51, 52] [] hG
  unfold M_sheet at h
  have n19 : ∀ (v_cellOf : Nat → Int32) (v_sheetKind : Nat → Int32) (v_sheetSize : Nat → Int32) (H : Heap) (locs : List Loc) (ls : Array Slot), lv_has ls 5 [] → GW g s (mkS σ [] [] [(53, v_cellOf), (51, v_sheetKind), (52, v_sheetSize)] []) H locs → M_sheet_n19 v_cellOf v_sheetKind v_sheetSize = some (r, w_cellOf, w_sheetKind, w_sheetSize) → Wg p l e 2 45 s m args below meth c g (some (.int r)) (mkS σ [] [] [(53, w_cellOf), (51, w_sheetKind), (52, w_sheetSize)] []) H locs (F0 m 19 ls []) := by
    intro v_cellOf v_sheetKind v_sheetSize H locs ls hl hG h
    unfold M_sheet_n19 at h
    refine lv_iconst (v := (-1 : Int32)) hx hb dX9_sheet_19 (by decide) ?_
    cases h
    exact gx_iret hx hb hr hlocks hG dX9_sheet_20
  have n78 : ∀ (v_cellOf : Nat → Int32) (v_sheetKind : Nat → Int32) (v_sheetSize : Nat → Int32) (H : Heap) (locs : List Loc) (ls : Array Slot), lv_has ls 5 [] → GW g s (mkS σ [] [] [(53, v_cellOf), (51, v_sheetKind), (52, v_sheetSize)] []) H locs → M_sheet_n78 v_cellOf v_sheetKind v_sheetSize = some (r, w_cellOf, w_sheetKind, w_sheetSize) → Wg p l e 2 45 s m args below meth c g (some (.int r)) (mkS σ [] [] [(53, w_cellOf), (51, w_sheetKind), (52, w_sheetSize)] []) H locs (F0 m 78 ls []) := by
    intro v_cellOf v_sheetKind v_sheetSize H locs ls hl hG h
    unfold M_sheet_n78 at h
    refine lv_iconst (v := (1 : Int32)) hx hb dX9_sheet_78 (by decide) ?_
    cases h
    exact gx_iret hx hb hr hlocks hG dX9_sheet_79
  have n53 : ∀ (k53 : Int32 → Int32 → Int32 → (Nat → Int32) → (Nat → Int32) → (Nat → Int32) → Option (Int32 × (Nat → Int32) × (Nat → Int32) × (Nat → Int32))) (hk53 : ∀ (x1 : Int32) (x3 : Int32) (x4 : Int32) (v_cellOf : Nat → Int32) (v_sheetKind : Nat → Int32) (v_sheetSize : Nat → Int32) (H : Heap) (locs : List Loc) (ls : Array Slot), lv_has ls 5 [(0, .ref (g.2.1 50)), (1, .int x1), (3, .int x3), (4, .int x4)] → GW g s (mkS σ [] [] [(53, v_cellOf), (51, v_sheetKind), (52, v_sheetSize)] []) H locs → k53 x1 x3 x4 v_cellOf v_sheetKind v_sheetSize = some (r, w_cellOf, w_sheetKind, w_sheetSize) → Wg p l e 2 45 s m args below meth c g (some (.int r)) (mkS σ [] [] [(53, w_cellOf), (51, w_sheetKind), (52, w_sheetSize)] []) H locs (F0 m 53 ls [])) (x1 : Int32) (x3 : Int32) (x4 : Int32) (v_cellOf : Nat → Int32) (v_sheetKind : Nat → Int32) (v_sheetSize : Nat → Int32) (H : Heap) (locs : List Loc) (ls : Array Slot), lv_has ls 5 [(0, .ref (g.2.1 50)), (1, .int x1), (3, .int x3), (4, .int x4)] → GW g s (mkS σ [] [] [(53, v_cellOf), (51, v_sheetKind), (52, v_sheetSize)] []) H locs → M_sheet_n53 k53 x1 x3 x4 v_cellOf v_sheetKind v_sheetSize = some (r, w_cellOf, w_sheetKind, w_sheetSize) → Wg p l e 2 45 s m args below meth c g (some (.int r)) (mkS σ [] [] [(53, w_cellOf), (51, w_sheetKind), (52, w_sheetSize)] []) H locs (F0 m 53 ls []) := by
    intro k53 hk53 x1 x3 x4 v_cellOf v_sheetKind v_sheetSize H locs ls hl hG h
    unfold M_sheet_n53 at h
    refine lv_iload hx hb dX9_sheet_53 (lv_at hl 3 rfl) ?_
    refine lv_iload_n hx hb dX9_sheet_55 rfl (lv_at hl 2 rfl) ?_
    refine lv_icmp_ge (tgt := 78) hx hb dX9_sheet_56 (by decide) (fun c1 => ?_) (fun c1 => ?_)
    · have h := ite_t c1 h
      exact n78 v_cellOf v_sheetKind v_sheetSize _ _ _ (lv_sub hl [] rfl) hG h
    · have h := ite_f c1 h
      refine lv_aload_n hx hb dX9_sheet_59 rfl (lv_at hl 0 rfl) ?_
      refine gx_get (v := .ref (g.2.1 53)) (C := RX9) (T := TX9) (N := 44) hx hb hts hinX9 hown hK hG (ga_50 g _) rfl 2 (by decide) hw0 rfl rfl dX9_sheet_60 ?_
      refine lv_bipush (v := (60 : Int32)) hx hb dX9_sheet_63 (by decide) ?_
      refine lv_iload_n hx hb dX9_sheet_65 rfl (lv_at hl 1 rfl) ?_
      refine lv_imul hx hb dX9_sheet_66 ?_
      refine lv_iload hx hb dX9_sheet_67 (lv_at hl 3 rfl) ?_
      refine lv_iadd hx hb dX9_sheet_69 ?_
      refine lv_iconst (v := (0 : Int32)) hx hb dX9_sheet_70 (by decide) ?_
      obtain ⟨hg2, h⟩ := gd_some h
      refine gx_iast (σ' := (mkS σ [] [] [(53, (upd v_cellOf ((((60 : Int32) * x1) + x4).toNatClampNeg) (0 : Int32))), (51, v_sheetKind), (52, v_sheetSize)] [])) (f := v_cellOf) hx hb hK hG (ga_53 g _) hg2 ((gs_53 g _ _).trans (congrArg (g_cells g) (mk_c 0 rfl rfl))) dX9_sheet_71 (fun H locs hG => ?_)
      refine lv_iinc (v := (x4 + (1 : Int32))) (lv' := [(4, .int (x4 + (1 : Int32))), (0, .ref (g.2.1 50)), (1, .int x1), (3, .int x3)]) hx hb dX9_sheet_72 hl (k := 3) rfl (congrArg (fun z => x4 + z) (by decide)) (Nat.le_of_ble_eq_true rfl) rfl (fun ls hl => ?_)
      refine lv_goto (tgt := 53) hx hb dX9_sheet_75 (by decide) ?_
      exact hk53 x1 x3 (x4 + (1 : Int32)) (upd v_cellOf ((((60 : Int32) * x1) + x4).toNatClampNeg) (0 : Int32)) v_sheetKind v_sheetSize _ _ _ (lv_sub hl [1, 2, 3, 0] rfl) hG h
  have l53 : ∀  (F : Nat) (x1 : Int32) (x3 : Int32) (x4 : Int32) (v_cellOf : Nat → Int32) (v_sheetKind : Nat → Int32) (v_sheetSize : Nat → Int32) (H : Heap) (locs : List Loc) (ls : Array Slot), lv_has ls 5 [(0, .ref (g.2.1 50)), (1, .int x1), (3, .int x3), (4, .int x4)] → GW g s (mkS σ [] [] [(53, v_cellOf), (51, v_sheetKind), (52, v_sheetSize)] []) H locs → M_sheet_l53 F x1 x3 x4 v_cellOf v_sheetKind v_sheetSize = some (r, w_cellOf, w_sheetKind, w_sheetSize) → Wg p l e 2 45 s m args below meth c g (some (.int r)) (mkS σ [] [] [(53, w_cellOf), (51, w_sheetKind), (52, w_sheetSize)] []) H locs (F0 m 53 ls []) := by
    intro F
    induction F with
    | zero => intro x1 x3 x4 v_cellOf v_sheetKind v_sheetSize H locs ls hl hG h; exact no_some h
    | succ F ih => intro x1 x3 x4 v_cellOf v_sheetKind v_sheetSize H locs ls hl hG h; exact n53 (fun x1 x3 x4 v_cellOf v_sheetKind v_sheetSize => M_sheet_l53 F x1 x3 x4 v_cellOf v_sheetKind v_sheetSize) ih x1 x3 x4 v_cellOf v_sheetKind v_sheetSize H locs ls hl hG h
  refine lv_iload_n hx hb dX9_sheet_0 rfl (lv_at hl 1 rfl) ?_
  obtain ⟨z3, hc4, h⟩ := bnd_some h
  refine gx_cS (σ' := (mkS σ [] [] [(53, (σ.2.2.1 53)), (51, (σ.2.2.1 51)), (52, (σ.2.2.1 52))] [])) (r := (some (.int z3))) (rest := []) (As := [.int x1]) hS9 (c_M_isSheet l g (mkS σ [] [] [(53, (σ.2.2.1 53)), (51, (σ.2.2.1 51)), (52, (σ.2.2.1 52))] []) x1 z3 hc4) rfl (va_cwS 1 hts gX9_sheet_X9_isSheet rfl rfl rfl (by decide +kernel) ⟨Nat.le_of_ble_eq_true rfl, Nat.le_of_ble_eq_true rfl⟩) hK hG rfl hl.1 rfl (Nat.le_of_ble_eq_true rfl) dX9_sheet_1 (fun H locs hG => ?_)
  refine W.eq (g2 := F0 m 4 ls [.int z3]) rfl ?_
  refine lv_if_eq (tgt := 19) hx hb dX9_sheet_4 (by decide) (fun c5 => ?_) (fun c5 => ?_)
  · have h := ite_t c5 h
    exact n19 (σ.2.2.1 53) (σ.2.2.1 51) (σ.2.2.1 52) _ _ _ (lv_sub hl [] rfl) hG h
  · have h := ite_f c5 h
    refine lv_iload_n hx hb dX9_sheet_7 rfl (lv_at hl 2 rfl) ?_
    refine lv_i2l hx hb dX9_sheet_8 rfl ?_
    refine lv_lconst (v := (0 : Int64)) hx hb dX9_sheet_9 (by decide) ?_
    refine lv_ldc2 hx hb hown hw1 dX9_sheet_10 ?_
    obtain ⟨z6, hc7, h⟩ := bnd_some h
    refine gx_cS (σ' := (mkS σ [] [] [(53, (σ.2.2.1 53)), (51, (σ.2.2.1 51)), (52, (σ.2.2.1 52))] [])) (r := (some (.int z6))) (rest := []) (As := [.long (x2.toInt64), .long (0 : Int64), .long (2 : Int64)]) hS9 (c_M_in l g (mkS σ [] [] [(53, (σ.2.2.1 53)), (51, (σ.2.2.1 51)), (52, (σ.2.2.1 52))] []) (x2.toInt64) (0 : Int64) (2 : Int64) z6 hc7) rfl (va_cwS 3 hts gX9_sheet_X9_in rfl rfl rfl (by decide +kernel) ⟨Nat.le_of_ble_eq_true rfl, Nat.le_of_ble_eq_true rfl⟩) hK hG rfl hl.1 rfl (Nat.le_of_ble_eq_true rfl) dX9_sheet_13 (fun H locs hG => ?_)
    refine W.eq (g2 := F0 m 16 ls [.int z6]) rfl ?_
    refine lv_if_ne (tgt := 21) hx hb dX9_sheet_16 (by decide) (fun c8 => ?_) (fun c8 => ?_)
    · have h := ite_f c8 h
      refine lv_iload_n hx hb dX9_sheet_21 rfl (lv_at hl 3 rfl) ?_
      refine lv_if_ge (tgt := 28) hx hb dX9_sheet_22 (by decide) (fun c9 => ?_) (fun c9 => ?_)
      · have h := ite_t c9 h
        refine lv_iload_n hx hb dX9_sheet_28 rfl (lv_at hl 3 rfl) ?_
        refine lv_bipush (v := (60 : Int32)) hx hb dX9_sheet_29 (by decide) ?_
        refine lv_icmp_le (tgt := 36) hx hb dX9_sheet_31 (by decide) (fun c10 => ?_) (fun c10 => ?_)
        · have h := ite_t c10 h
          refine lv_aload_n hx hb dX9_sheet_36 rfl (lv_at hl 0 rfl) ?_
          refine gx_get (v := .ref (g.2.1 51)) (C := RX9) (T := TX9) (N := 44) hx hb hts hinX9 hown hK hG (ga_50 g _) rfl 0 (by decide) hw2 rfl rfl dX9_sheet_37 ?_
          refine lv_iload_n hx hb dX9_sheet_40 rfl (lv_at hl 1 rfl) ?_
          refine lv_iload_n hx hb dX9_sheet_41 rfl (lv_at hl 2 rfl) ?_
          obtain ⟨hg11, h⟩ := gd_some h
          refine gx_iast (σ' := (mkS σ [] [] [(53, (σ.2.2.1 53)), (51, (upd (σ.2.2.1 51) (x1.toNatClampNeg) x2)), (52, (σ.2.2.1 52))] [])) (f := (σ.2.2.1 51)) hx hb hK hG (ga_51 g _) hg11 ((gs_51 g _ _).trans (congrArg (g_cells g) (mk_c 1 rfl rfl))) dX9_sheet_42 (fun H locs hG => ?_)
          refine lv_aload_n hx hb dX9_sheet_43 rfl (lv_at hl 0 rfl) ?_
          refine gx_get (v := .ref (g.2.1 52)) (C := RX9) (T := TX9) (N := 44) hx hb hts hinX9 hown hK hG (ga_50 g _) rfl 1 (by decide) hw3 rfl rfl dX9_sheet_44 ?_
          refine lv_iload_n hx hb dX9_sheet_47 rfl (lv_at hl 1 rfl) ?_
          refine lv_iload_n hx hb dX9_sheet_48 rfl (lv_at hl 3 rfl) ?_
          refine gx_iast (σ' := (mkS σ [] [] [(53, (σ.2.2.1 53)), (51, (upd (σ.2.2.1 51) (x1.toNatClampNeg) x2)), (52, (upd (σ.2.2.1 52) (x1.toNatClampNeg) x3))] [])) (f := (σ.2.2.1 52)) hx hb hK hG (ga_52 g _) hg11 ((gs_52 g _ _).trans (congrArg (g_cells g) (mk_c 2 rfl rfl))) dX9_sheet_49 (fun H locs hG => ?_)
          refine lv_iconst (v := (0 : Int32)) hx hb dX9_sheet_50 (by decide) ?_
          refine lv_istore (lv' := [(4, .int (0 : Int32)), (0, .ref (g.2.1 50)), (1, .int x1), (2, .int x2), (3, .int x3)]) hx hb dX9_sheet_51 hl (Nat.le_of_ble_eq_true rfl) rfl (fun ls hl => ?_)
          exact l53 FUEL x1 x3 (0 : Int32) (σ.2.2.1 53) (upd (σ.2.2.1 51) (x1.toNatClampNeg) x2) (upd (σ.2.2.1 52) (x1.toNatClampNeg) x3) _ _ _ (lv_sub hl [1, 2, 4, 0] rfl) hG h
        · have h := ite_f c10 h
          refine lv_iconst (v := (-1 : Int32)) hx hb dX9_sheet_34 (by decide) ?_
          cases h
          exact gx_iret hx hb hr hlocks hG dX9_sheet_35
      · have h := ite_f c9 h
        refine lv_bipush (v := (-4 : Int32)) hx hb dX9_sheet_25 (by decide) ?_
        cases h
        exact gx_iret hx hb hr hlocks hG dX9_sheet_27
    · have h := ite_t c8 h
      exact n19 (σ.2.2.1 53) (σ.2.2.1 51) (σ.2.2.1 52) _ _ _ (lv_sub hl [] rfl) hG h

set_option maxHeartbeats 4000000 in
set_option maxRecDepth 100000 in
theorem c_M_atWay (l : Launch) (g : GC) (σ : St) (x1 : Int32) (x2 : Int32) (r : Int32) (h : M_atWay x1 x2 (σ.1 3203) (σ.2.2.1 59) = some r) : Cn l g yX9_atWay wsX9_atWay 0 0 [.ref (g.2.1 50), .int x1, .int x2] σ (some (.int r)) σ := by
  unfold Cn
  refine Met.ofW (cc := cX9_atWay) (maxL := 5) (ret := (some .int)) (by decide) rfl ?_
  intro p e s m args below meth c s₁ B hml hv
  obtain ⟨hargs, hP0, hK⟩ := hv
  have hx := B.exec
  have hb := B.bytes
  have hr := B.returns
  have hts := atoms_spec (ws := wsX9_atWay) B.pre
  have hown : s.vm.findClass RX9 = some m.cls := findClass_of_methodNamed B.named
  have hlocks := B.notSynchronized
  have hinX9 : ∀ w ∈ wsX90, w ∈ wsX9_atWay := fun w h => List.mem_cons_of_mem _ (List.mem_append_right _ (h))
  have hw0 := hts (.fieldLink RX9 116 "LikeNetsModel" "posts" "I") (List.mem_of_getElem? (i := 1) rfl)
  have hw1 := hts (.fieldLink RX9 39 "LikeNetsModel" "wayOf" "[I") (List.mem_of_getElem? (i := 2) rfl)
  have hf9 : entryFrame m args 5 = _ := (congrArg (fun a => entryFrame m a 5) hargs).trans (lg_entry_eq m [.ref (g.2.1 50), .int x1, .int x2] 5)
  show Wg p l e 0 0 s m args below meth c g (some (.int r)) σ s.heap [] (entryFrame m args 5)
  rw [hf9]
  have hl := lv_entry ([.ref (g.2.1 50), .int x1, .int x2]) (n := 5) (Nat.le_of_ble_eq_true rfl)
  generalize (lg_sl ([.ref (g.2.1 50), .int x1, .int x2]) ++ List.replicate (5 - (lg_sl ([.ref (g.2.1 50), .int x1, .int x2])).length) Slot.unset).toArray = ls at hl ⊢
  have hl : lv_has ls 5 [(0, .ref (g.2.1 50)), (1, .int x1), (2, .int x2)] := hl
  have hG : GW g s σ s.heap [] := ⟨hP0, va_S.rf⟩
  unfold M_atWay at h
  have n36 : ∀ (k5 : Int32 → Int32 → Int32 → Int32 → Option (Int32)) (hk5 : ∀ (x1 : Int32) (x2 : Int32) (x3 : Int32) (x4 : Int32) (H : Heap) (locs : List Loc) (ls : Array Slot), lv_has ls 5 [(0, .ref (g.2.1 50)), (1, .int x1), (2, .int x2), (3, .int x3), (4, .int x4)] → GW g s σ H locs → k5 x1 x2 x3 x4 = some r → Wg p l e 0 0 s m args below meth c g (some (.int r)) σ H locs (F0 m 5 ls [])) (x1 : Int32) (x2 : Int32) (x4 : Int32) (t0 : Int32) (t1 : Int32) (H : Heap) (locs : List Loc) (ls : Array Slot), lv_has ls 5 [(0, .ref (g.2.1 50)), (1, .int x1), (2, .int x2), (4, .int x4)] → GW g s σ H locs → M_atWay_n36 k5 x1 x2 x4 t0 t1 = some r → Wg p l e 0 0 s m args below meth c g (some (.int r)) σ H locs (F0 m 36 ls [.int t1, .int t0]) := by
    intro k5 hk5 x1 x2 x4 t0 t1 H locs ls hl hG h
    unfold M_atWay_n36 at h
    refine lv_iadd hx hb dX9_atWay_36 ?_
    refine lv_istore_n (lv' := [(3, .int (t0 + t1)), (0, .ref (g.2.1 50)), (1, .int x1), (2, .int x2), (4, .int x4)]) hx hb dX9_atWay_37 rfl hl (Nat.le_of_ble_eq_true rfl) rfl (fun ls hl => ?_)
    refine lv_iinc (v := (x4 + (1 : Int32))) (lv' := [(4, .int (x4 + (1 : Int32))), (3, .int (t0 + t1)), (0, .ref (g.2.1 50)), (1, .int x1), (2, .int x2)]) hx hb dX9_atWay_38 hl (k := 4) rfl (congrArg (fun z => x4 + z) (by decide)) (Nat.le_of_ble_eq_true rfl) rfl (fun ls hl => ?_)
    refine lv_goto (tgt := 5) hx hb dX9_atWay_41 (by decide) ?_
    exact hk5 x1 x2 (t0 + t1) (x4 + (1 : Int32)) _ _ _ (lv_sub hl [2, 3, 4, 1, 0] rfl) hG h
  have n44 : ∀ (x3 : Int32) (H : Heap) (locs : List Loc) (ls : Array Slot), lv_has ls 5 [(3, .int x3)] → GW g s σ H locs → M_atWay_n44 x3 = some r → Wg p l e 0 0 s m args below meth c g (some (.int r)) σ H locs (F0 m 44 ls []) := by
    intro x3 H locs ls hl hG h
    unfold M_atWay_n44 at h
    refine lv_iload_n hx hb dX9_atWay_44 rfl (lv_at hl 0 rfl) ?_
    cases h
    exact gx_iret hx hb hr hlocks hG dX9_atWay_45
  have n5 : ∀ (k5 : Int32 → Int32 → Int32 → Int32 → Option (Int32)) (hk5 : ∀ (x1 : Int32) (x2 : Int32) (x3 : Int32) (x4 : Int32) (H : Heap) (locs : List Loc) (ls : Array Slot), lv_has ls 5 [(0, .ref (g.2.1 50)), (1, .int x1), (2, .int x2), (3, .int x3), (4, .int x4)] → GW g s σ H locs → k5 x1 x2 x3 x4 = some r → Wg p l e 0 0 s m args below meth c g (some (.int r)) σ H locs (F0 m 5 ls [])) (x1 : Int32) (x2 : Int32) (x3 : Int32) (x4 : Int32) (H : Heap) (locs : List Loc) (ls : Array Slot), lv_has ls 5 [(0, .ref (g.2.1 50)), (1, .int x1), (2, .int x2), (3, .int x3), (4, .int x4)] → GW g s σ H locs → M_atWay_n5 k5 (σ.1 3203) (σ.2.2.1 59) x1 x2 x3 x4 = some r → Wg p l e 0 0 s m args below meth c g (some (.int r)) σ H locs (F0 m 5 ls []) := by
    intro k5 hk5 x1 x2 x3 x4 H locs ls hl hG h
    unfold M_atWay_n5 at h
    refine lv_iload hx hb dX9_atWay_5 (lv_at hl 4 rfl) ?_
    refine lv_aload_n hx hb dX9_atWay_7 rfl (lv_at hl 0 rfl) ?_
    refine gx_get (v := .int (σ.1 3203)) (C := RX9) (T := TX9) (N := 44) hx hb hts hinX9 hown hK hG (ga_50 g _) rfl 3 (by decide) hw0 rfl rfl dX9_atWay_8 ?_
    refine lv_icmp_ge (tgt := 44) hx hb dX9_atWay_11 (by decide) (fun c1 => ?_) (fun c1 => ?_)
    · have h := ite_t c1 h
      exact n44 x3 _ _ _ (lv_sub hl [3] rfl) hG h
    · have h := ite_f c1 h
      refine lv_iload_n hx hb dX9_atWay_14 rfl (lv_at hl 3 rfl) ?_
      refine lv_aload_n hx hb dX9_atWay_15 rfl (lv_at hl 0 rfl) ?_
      refine gx_get (v := .ref (g.2.1 59)) (C := RX9) (T := TX9) (N := 44) hx hb hts hinX9 hown hK hG (ga_50 g _) rfl 13 (by decide) hw1 rfl rfl dX9_atWay_16 ?_
      refine lv_bipush (v := (32 : Int32)) hx hb dX9_atWay_19 (by decide) ?_
      refine lv_iload_n hx hb dX9_atWay_21 rfl (lv_at hl 1 rfl) ?_
      refine lv_imul hx hb dX9_atWay_22 ?_
      refine lv_iload hx hb dX9_atWay_23 (lv_at hl 4 rfl) ?_
      refine lv_iadd hx hb dX9_atWay_25 ?_
      obtain ⟨hg2, h⟩ := gd_some h
      refine gx_iald (f := (σ.2.2.1 59)) hx hb hK hG (ga_59 g _) hg2 dX9_atWay_26 ?_
      refine lv_iload_n hx hb dX9_atWay_27 rfl (lv_at hl 2 rfl) ?_
      refine lv_icmp_ne (tgt := 35) hx hb dX9_atWay_28 (by decide) (fun c3 => ?_) (fun c3 => ?_)
      · have h := ite_f c3 h
        refine lv_iconst (v := (0 : Int32)) hx hb dX9_atWay_35 (by decide) ?_
        exact n36 k5 hk5 x1 x2 x4 x3 (0 : Int32) _ _ _ (lv_sub hl [0, 1, 2, 4] rfl) hG h
      · have h := ite_t c3 h
        refine lv_iconst (v := (1 : Int32)) hx hb dX9_atWay_31 (by decide) ?_
        refine lv_goto (tgt := 36) hx hb dX9_atWay_32 (by decide) ?_
        exact n36 k5 hk5 x1 x2 x4 x3 (1 : Int32) _ _ _ (lv_sub hl [0, 1, 2, 4] rfl) hG h
  have l5 : ∀  (F : Nat) (x1 : Int32) (x2 : Int32) (x3 : Int32) (x4 : Int32) (H : Heap) (locs : List Loc) (ls : Array Slot), lv_has ls 5 [(0, .ref (g.2.1 50)), (1, .int x1), (2, .int x2), (3, .int x3), (4, .int x4)] → GW g s σ H locs → M_atWay_l5 (σ.1 3203) (σ.2.2.1 59) F x1 x2 x3 x4 = some r → Wg p l e 0 0 s m args below meth c g (some (.int r)) σ H locs (F0 m 5 ls []) := by
    intro F
    induction F with
    | zero => intro x1 x2 x3 x4 H locs ls hl hG h; exact no_some h
    | succ F ih => intro x1 x2 x3 x4 H locs ls hl hG h; exact n5 (fun x1 x2 x3 x4 => M_atWay_l5 (σ.1 3203) (σ.2.2.1 59) F x1 x2 x3 x4) ih x1 x2 x3 x4 H locs ls hl hG h
  refine lv_iconst (v := (0 : Int32)) hx hb dX9_atWay_0 (by decide) ?_
  refine lv_istore_n (lv' := [(3, .int (0 : Int32)), (0, .ref (g.2.1 50)), (1, .int x1), (2, .int x2)]) hx hb dX9_atWay_1 rfl hl (Nat.le_of_ble_eq_true rfl) rfl (fun ls hl => ?_)
  refine lv_iconst (v := (0 : Int32)) hx hb dX9_atWay_2 (by decide) ?_
  refine lv_istore (lv' := [(4, .int (0 : Int32)), (3, .int (0 : Int32)), (0, .ref (g.2.1 50)), (1, .int x1), (2, .int x2)]) hx hb dX9_atWay_3 hl (Nat.le_of_ble_eq_true rfl) rfl (fun ls hl => ?_)
  exact l5 FUEL x1 x2 (0 : Int32) (0 : Int32) _ _ _ (lv_sub hl [2, 3, 4, 1, 0] rfl) hG h

set_option maxHeartbeats 4000000 in
set_option maxRecDepth 100000 in
theorem c_M_table (l : Launch) (g : GC) (σ : St) (x1 : Int32) (x2 : Int32) (r : Int32) (w_clashP : Int32) (w_clashQ : Int32) (w_far : Int32) (w_heaps : Int32) (w_isMeasured : Int32) (w_isTold : Nat → Int32) (w_tableA : Nat → Int32) (w_tableB : Nat → Int32) (w_tableC : Nat → Int32) (w_wayOf : Nat → Int32) (h : M_table x1 x2 (σ.1 3221) (σ.1 3222) (σ.1 3214) (σ.1 3215) (σ.1 3212) (σ.1 3203) (σ.2.2.1 64) (σ.2.2.1 54) (σ.2.2.1 62) (σ.2.2.1 63) (σ.2.2.1 61) (σ.2.2.1 59) = some (r, w_clashP, w_clashQ, w_far, w_heaps, w_isMeasured, w_isTold, w_tableA, w_tableB, w_tableC, w_wayOf)) : Cn l g yX9_table wsX9_table 4 93 [.ref (g.2.1 50), .int x1, .int x2] σ (some (.int r)) (mkS σ [(3221, w_clashP), (3222, w_clashQ), (3214, w_far), (3215, w_heaps), (3212, w_isMeasured)] [] [(64, w_isTold), (62, w_tableA), (63, w_tableB), (61, w_tableC), (59, w_wayOf)] []) := by
  unfold Cn
  refine Met.ofW (cc := cX9_table) (maxL := 3) (ret := (some .int)) (by decide) rfl ?_
  intro p e s m args below meth c s₁ B hml hv
  obtain ⟨hargs, hP0, hK⟩ := hv
  have hx := B.exec
  have hb := B.bytes
  have hr := B.returns
  have hts := atoms_spec (ws := wsX9_table) B.pre
  have hown : s.vm.findClass RX9 = some m.cls := findClass_of_methodNamed B.named
  have hlocks := B.notSynchronized
  have hS9 : CallFix p m c cX9_table 3 s args wsX9_table RX9 := ⟨hx, hb, hml, hown, hts⟩
  have hinX9 : ∀ w ∈ wsX90, w ∈ wsX9_table := fun w h => List.mem_cons_of_mem _ (List.mem_append_right _ (h))
  have hw0 := hts (.constantLong RX9 110 (3)) (List.mem_of_getElem? (i := 1) rfl)
  have hw1 := hts (.fieldLink RX9 177 "LikeNetsModel" "far" "I") (List.mem_of_getElem? (i := 2) rfl)
  have hw2 := hts (.fieldLink RX9 51 "LikeNetsModel" "tableB" "[I") (List.mem_of_getElem? (i := 5) rfl)
  have hw3 := hts (.fieldLink RX9 48 "LikeNetsModel" "tableA" "[I") (List.mem_of_getElem? (i := 4) rfl)
  have hw4 := hts (.fieldLink RX9 45 "LikeNetsModel" "tableC" "[I") (List.mem_of_getElem? (i := 3) rfl)
  have hf9 : entryFrame m args 3 = _ := (congrArg (fun a => entryFrame m a 3) hargs).trans (lg_entry_eq m [.ref (g.2.1 50), .int x1, .int x2] 3)
  show Wg p l e 4 93 s m args below meth c g (some (.int r)) (mkS σ [(3221, w_clashP), (3222, w_clashQ), (3214, w_far), (3215, w_heaps), (3212, w_isMeasured)] [] [(64, w_isTold), (62, w_tableA), (63, w_tableB), (61, w_tableC), (59, w_wayOf)] []) s.heap [] (entryFrame m args 3)
  rw [hf9]
  have hl := lv_entry ([.ref (g.2.1 50), .int x1, .int x2]) (n := 3) (Nat.le_of_ble_eq_true rfl)
  generalize (lg_sl ([.ref (g.2.1 50), .int x1, .int x2]) ++ List.replicate (3 - (lg_sl ([.ref (g.2.1 50), .int x1, .int x2])).length) Slot.unset).toArray = ls at hl ⊢
  have hl : lv_has ls 3 [(0, .ref (g.2.1 50)), (1, .int x1), (2, .int x2)] := hl
  have hG : GW g s σ s.heap [] := ⟨hP0, va_S.rf⟩
  have hG : GW g s (mkS σ [(3221, (σ.1 3221)), (3222, (σ.1 3222)), (3214, (σ.1 3214)), (3215, (σ.1 3215)), (3212, (σ.1 3212))] [] [(64, (σ.2.2.1 64)), (62, (σ.2.2.1 62)), (63, (σ.2.2.1 63)), (61, (σ.2.2.1 61)), (59, (σ.2.2.1 59))] []) s.heap [] := GW_self [3221, 3222, 3214, 3215, 3212] [] [64, 62, 63, 61, 59] [] hG
  unfold M_table at h
  have n87 : ∀ (t0 : Int32) (v_clashP : Int32) (v_clashQ : Int32) (v_far : Int32) (v_heaps : Int32) (v_isMeasured : Int32) (v_isTold : Nat → Int32) (v_tableA : Nat → Int32) (v_tableB : Nat → Int32) (v_tableC : Nat → Int32) (v_wayOf : Nat → Int32) (H : Heap) (locs : List Loc) (ls : Array Slot), lv_has ls 3 [] → GW g s (mkS σ [(3221, v_clashP), (3222, v_clashQ), (3214, v_far), (3215, v_heaps), (3212, v_isMeasured)] [] [(64, v_isTold), (62, v_tableA), (63, v_tableB), (61, v_tableC), (59, v_wayOf)] []) H locs → M_table_n87 t0 v_clashP v_clashQ v_far v_heaps v_isMeasured v_isTold v_tableA v_tableB v_tableC v_wayOf = some (r, w_clashP, w_clashQ, w_far, w_heaps, w_isMeasured, w_isTold, w_tableA, w_tableB, w_tableC, w_wayOf) → Wg p l e 4 93 s m args below meth c g (some (.int r)) (mkS σ [(3221, w_clashP), (3222, w_clashQ), (3214, w_far), (3215, w_heaps), (3212, w_isMeasured)] [] [(64, w_isTold), (62, w_tableA), (63, w_tableB), (61, w_tableC), (59, w_wayOf)] []) H locs (F0 m 87 ls [.int t0]) := by
    intro t0 v_clashP v_clashQ v_far v_heaps v_isMeasured v_isTold v_tableA v_tableB v_tableC v_wayOf H locs ls hl hG h
    unfold M_table_n87 at h
    cases h
    exact gx_iret hx hb hr hlocks hG dX9_table_87
  refine lv_iload_n hx hb dX9_table_0 rfl (lv_at hl 2 rfl) ?_
  refine lv_i2l hx hb dX9_table_1 rfl ?_
  refine lv_lconst (v := (0 : Int64)) hx hb dX9_table_2 (by decide) ?_
  refine lv_ldc2 hx hb hown hw0 dX9_table_3 ?_
  obtain ⟨z1, hc2, h⟩ := bnd_some h
  refine gx_cS (σ' := (mkS σ [(3221, (σ.1 3221)), (3222, (σ.1 3222)), (3214, (σ.1 3214)), (3215, (σ.1 3215)), (3212, (σ.1 3212))] [] [(64, (σ.2.2.1 64)), (62, (σ.2.2.1 62)), (63, (σ.2.2.1 63)), (61, (σ.2.2.1 61)), (59, (σ.2.2.1 59))] [])) (r := (some (.int z1))) (rest := []) (As := [.long (x2.toInt64), .long (0 : Int64), .long (3 : Int64)]) hS9 (c_M_in l g (mkS σ [(3221, (σ.1 3221)), (3222, (σ.1 3222)), (3214, (σ.1 3214)), (3215, (σ.1 3215)), (3212, (σ.1 3212))] [] [(64, (σ.2.2.1 64)), (62, (σ.2.2.1 62)), (63, (σ.2.2.1 63)), (61, (σ.2.2.1 61)), (59, (σ.2.2.1 59))] []) (x2.toInt64) (0 : Int64) (3 : Int64) z1 hc2) rfl (va_cwS 3 hts gX9_table_X9_in rfl rfl rfl (by decide +kernel) ⟨Nat.le_of_ble_eq_true rfl, Nat.le_of_ble_eq_true rfl⟩) hK hG rfl hl.1 rfl (Nat.le_of_ble_eq_true rfl) dX9_table_6 (fun H locs hG => ?_)
  refine W.eq (g2 := F0 m 9 ls [.int z1]) rfl ?_
  refine lv_if_ne (tgt := 14) hx hb dX9_table_9 (by decide) (fun c3 => ?_) (fun c3 => ?_)
  · have h := ite_f c3 h
    refine lv_aload_n hx hb dX9_table_14 rfl (lv_at hl 0 rfl) ?_
    obtain ⟨z4, hc5, h⟩ := bnd_some h
    refine gx_cV (σ' := (mkS σ [(3221, z4.2.1), (3222, z4.2.2.1), (3214, z4.2.2.2.1), (3215, z4.2.2.2.2.1), (3212, z4.2.2.2.2.2.1)] [] [(64, z4.2.2.2.2.2.2.1), (62, z4.2.2.2.2.2.2.2.1), (63, z4.2.2.2.2.2.2.2.2.1), (61, z4.2.2.2.2.2.2.2.2.2.1), (59, z4.2.2.2.2.2.2.2.2.2.2)] [])) (r := (some (.int z4.1))) (rest := []) (As := []) hS9 (c_M_isLike l g (mkS σ [(3221, (σ.1 3221)), (3222, (σ.1 3222)), (3214, (σ.1 3214)), (3215, (σ.1 3215)), (3212, (σ.1 3212))] [] [(64, (σ.2.2.1 64)), (62, (σ.2.2.1 62)), (63, (σ.2.2.1 63)), (61, (σ.2.2.1 61)), (59, (σ.2.2.1 59))] []) z4.1 z4.2.1 z4.2.2.1 z4.2.2.2.1 z4.2.2.2.2.1 z4.2.2.2.2.2.1 z4.2.2.2.2.2.2.1 z4.2.2.2.2.2.2.2.1 z4.2.2.2.2.2.2.2.2.1 z4.2.2.2.2.2.2.2.2.2.1 z4.2.2.2.2.2.2.2.2.2.2 hc5) (mk_mk rfl rfl rfl rfl) (cwV 0 hts gX9_table_X9_isLike rfl rfl rfl (by decide +kernel) ⟨Nat.le_of_ble_eq_true rfl, Nat.le_of_ble_eq_true rfl⟩) hK hG (ga_50 g _) rfl rfl rfl hl.1 rfl (Nat.le_of_ble_eq_true rfl) dX9_table_15 (fun H locs hG => ?_)
    refine W.eq (g2 := F0 m 18 ls [.int z4.1]) rfl ?_
    refine lv_if_ne (tgt := 24) hx hb dX9_table_18 (by decide) (fun c6 => ?_) (fun c6 => ?_)
    · have h := ite_f c6 h
      refine lv_iload_n hx hb dX9_table_24 rfl (lv_at hl 1 rfl) ?_
      refine lv_i2l hx hb dX9_table_25 rfl ?_
      refine lv_lconst (v := (0 : Int64)) hx hb dX9_table_26 (by decide) ?_
      refine lv_aload_n hx hb dX9_table_27 rfl (lv_at hl 0 rfl) ?_
      refine gx_get (v := .int z4.2.2.2.1) (C := RX9) (T := TX9) (N := 44) hx hb hts hinX9 hown hK hG (ga_50 g _) rfl 14 (by decide) hw1 rfl rfl dX9_table_28 ?_
      refine lv_i2l hx hb dX9_table_31 rfl ?_
      obtain ⟨z7, hc8, h⟩ := bnd_some h
      refine gx_cS (σ' := (mkS σ [(3221, z4.2.1), (3222, z4.2.2.1), (3214, z4.2.2.2.1), (3215, z4.2.2.2.2.1), (3212, z4.2.2.2.2.2.1)] [] [(64, z4.2.2.2.2.2.2.1), (62, z4.2.2.2.2.2.2.2.1), (63, z4.2.2.2.2.2.2.2.2.1), (61, z4.2.2.2.2.2.2.2.2.2.1), (59, z4.2.2.2.2.2.2.2.2.2.2)] [])) (r := (some (.int z7))) (rest := []) (As := [.long (x1.toInt64), .long (0 : Int64), .long (z4.2.2.2.1.toInt64)]) hS9 (c_M_in l g (mkS σ [(3221, z4.2.1), (3222, z4.2.2.1), (3214, z4.2.2.2.1), (3215, z4.2.2.2.2.1), (3212, z4.2.2.2.2.2.1)] [] [(64, z4.2.2.2.2.2.2.1), (62, z4.2.2.2.2.2.2.2.1), (63, z4.2.2.2.2.2.2.2.2.1), (61, z4.2.2.2.2.2.2.2.2.2.1), (59, z4.2.2.2.2.2.2.2.2.2.2)] []) (x1.toInt64) (0 : Int64) (z4.2.2.2.1.toInt64) z7 hc8) rfl (va_cwS 3 hts gX9_table_X9_in rfl rfl rfl (by decide +kernel) ⟨Nat.le_of_ble_eq_true rfl, Nat.le_of_ble_eq_true rfl⟩) hK hG rfl hl.1 rfl (Nat.le_of_ble_eq_true rfl) dX9_table_32 (fun H locs hG => ?_)
      refine W.eq (g2 := F0 m 35 ls [.int z7]) rfl ?_
      refine lv_if_ne (tgt := 40) hx hb dX9_table_35 (by decide) (fun c9 => ?_) (fun c9 => ?_)
      · have h := ite_f c9 h
        refine lv_iload_n hx hb dX9_table_40 rfl (lv_at hl 2 rfl) ?_
        refine lv_if_ne (tgt := 53) hx hb dX9_table_41 (by decide) (fun c10 => ?_) (fun c10 => ?_)
        · have h := ite_f c10 h
          refine lv_iload_n hx hb dX9_table_53 rfl (lv_at hl 2 rfl) ?_
          refine lv_iconst (v := (1 : Int32)) hx hb dX9_table_54 (by decide) ?_
          refine lv_icmp_ne (tgt := 67) hx hb dX9_table_55 (by decide) (fun c11 => ?_) (fun c11 => ?_)
          · have h := ite_f c11 h
            refine lv_iload_n hx hb dX9_table_67 rfl (lv_at hl 2 rfl) ?_
            refine lv_iconst (v := (2 : Int32)) hx hb dX9_table_68 (by decide) ?_
            refine lv_icmp_ne (tgt := 81) hx hb dX9_table_69 (by decide) (fun c12 => ?_) (fun c12 => ?_)
            · have h := ite_f c12 h
              refine lv_aload_n hx hb dX9_table_81 rfl (lv_at hl 0 rfl) ?_
              refine lv_iconst (v := (0 : Int32)) hx hb dX9_table_82 (by decide) ?_
              refine lv_iload_n hx hb dX9_table_83 rfl (lv_at hl 1 rfl) ?_
              obtain ⟨z13, hc14, h⟩ := bnd_some h
              refine gx_cV (σ' := (mkS σ [(3221, z4.2.1), (3222, z4.2.2.1), (3214, z4.2.2.2.1), (3215, z4.2.2.2.2.1), (3212, z4.2.2.2.2.2.1)] [] [(64, z4.2.2.2.2.2.2.1), (62, z4.2.2.2.2.2.2.2.1), (63, z4.2.2.2.2.2.2.2.2.1), (61, z4.2.2.2.2.2.2.2.2.2.1), (59, z4.2.2.2.2.2.2.2.2.2.2)] [])) (r := (some (.int z13))) (rest := []) (As := [.int (0 : Int32), .int x1]) hS9 (c_M_atWay l g (mkS σ [(3221, z4.2.1), (3222, z4.2.2.1), (3214, z4.2.2.2.1), (3215, z4.2.2.2.2.1), (3212, z4.2.2.2.2.2.1)] [] [(64, z4.2.2.2.2.2.2.1), (62, z4.2.2.2.2.2.2.2.1), (63, z4.2.2.2.2.2.2.2.2.1), (61, z4.2.2.2.2.2.2.2.2.2.1), (59, z4.2.2.2.2.2.2.2.2.2.2)] []) (0 : Int32) x1 z13 hc14) rfl (cwV 2 hts gX9_table_X9_atWay rfl rfl rfl (by decide +kernel) ⟨Nat.le_of_ble_eq_true rfl, Nat.le_of_ble_eq_true rfl⟩) hK hG (ga_50 g _) rfl rfl rfl hl.1 rfl (Nat.le_of_ble_eq_true rfl) dX9_table_84 (fun H locs hG => ?_)
              refine W.eq (g2 := F0 m 87 ls [.int z13]) rfl ?_
              exact n87 z13 z4.2.1 z4.2.2.1 z4.2.2.2.1 z4.2.2.2.2.1 z4.2.2.2.2.2.1 z4.2.2.2.2.2.2.1 z4.2.2.2.2.2.2.2.1 z4.2.2.2.2.2.2.2.2.1 z4.2.2.2.2.2.2.2.2.2.1 z4.2.2.2.2.2.2.2.2.2.2 _ _ _ (lv_sub hl [] rfl) hG h
            · have h := ite_t c12 h
              refine lv_aload_n hx hb dX9_table_72 rfl (lv_at hl 0 rfl) ?_
              refine gx_get (v := .ref (g.2.1 63)) (C := RX9) (T := TX9) (N := 44) hx hb hts hinX9 hown hK hG (ga_50 g _) rfl 19 (by decide) hw2 rfl rfl dX9_table_73 ?_
              refine lv_iload_n hx hb dX9_table_76 rfl (lv_at hl 1 rfl) ?_
              obtain ⟨hg15, h⟩ := gd_some h
              refine gx_iald (f := z4.2.2.2.2.2.2.2.2.1) hx hb hK hG (ga_63 g _) hg15 dX9_table_77 ?_
              refine lv_goto (tgt := 87) hx hb dX9_table_78 (by decide) ?_
              exact n87 (z4.2.2.2.2.2.2.2.2.1 (x1.toNatClampNeg)) z4.2.1 z4.2.2.1 z4.2.2.2.1 z4.2.2.2.2.1 z4.2.2.2.2.2.1 z4.2.2.2.2.2.2.1 z4.2.2.2.2.2.2.2.1 z4.2.2.2.2.2.2.2.2.1 z4.2.2.2.2.2.2.2.2.2.1 z4.2.2.2.2.2.2.2.2.2.2 _ _ _ (lv_sub hl [] rfl) hG h
          · have h := ite_t c11 h
            refine lv_aload_n hx hb dX9_table_58 rfl (lv_at hl 0 rfl) ?_
            refine gx_get (v := .ref (g.2.1 62)) (C := RX9) (T := TX9) (N := 44) hx hb hts hinX9 hown hK hG (ga_50 g _) rfl 18 (by decide) hw3 rfl rfl dX9_table_59 ?_
            refine lv_iload_n hx hb dX9_table_62 rfl (lv_at hl 1 rfl) ?_
            obtain ⟨hg16, h⟩ := gd_some h
            refine gx_iald (f := z4.2.2.2.2.2.2.2.1) hx hb hK hG (ga_62 g _) hg16 dX9_table_63 ?_
            refine lv_goto (tgt := 87) hx hb dX9_table_64 (by decide) ?_
            exact n87 (z4.2.2.2.2.2.2.2.1 (x1.toNatClampNeg)) z4.2.1 z4.2.2.1 z4.2.2.2.1 z4.2.2.2.2.1 z4.2.2.2.2.2.1 z4.2.2.2.2.2.2.1 z4.2.2.2.2.2.2.2.1 z4.2.2.2.2.2.2.2.2.1 z4.2.2.2.2.2.2.2.2.2.1 z4.2.2.2.2.2.2.2.2.2.2 _ _ _ (lv_sub hl [] rfl) hG h
        · have h := ite_t c10 h
          refine lv_aload_n hx hb dX9_table_44 rfl (lv_at hl 0 rfl) ?_
          refine gx_get (v := .ref (g.2.1 61)) (C := RX9) (T := TX9) (N := 44) hx hb hts hinX9 hown hK hG (ga_50 g _) rfl 17 (by decide) hw4 rfl rfl dX9_table_45 ?_
          refine lv_iload_n hx hb dX9_table_48 rfl (lv_at hl 1 rfl) ?_
          obtain ⟨hg17, h⟩ := gd_some h
          refine gx_iald (f := z4.2.2.2.2.2.2.2.2.2.1) hx hb hK hG (ga_61 g _) hg17 dX9_table_49 ?_
          refine lv_goto (tgt := 87) hx hb dX9_table_50 (by decide) ?_
          exact n87 (z4.2.2.2.2.2.2.2.2.2.1 (x1.toNatClampNeg)) z4.2.1 z4.2.2.1 z4.2.2.2.1 z4.2.2.2.2.1 z4.2.2.2.2.2.1 z4.2.2.2.2.2.2.1 z4.2.2.2.2.2.2.2.1 z4.2.2.2.2.2.2.2.2.1 z4.2.2.2.2.2.2.2.2.2.1 z4.2.2.2.2.2.2.2.2.2.2 _ _ _ (lv_sub hl [] rfl) hG h
      · have h := ite_t c9 h
        refine lv_iconst (v := (-1 : Int32)) hx hb dX9_table_38 (by decide) ?_
        cases h
        exact gx_iret hx hb hr hlocks hG dX9_table_39
    · have h := ite_t c6 h
      refine lv_bipush (v := (-5 : Int32)) hx hb dX9_table_21 (by decide) ?_
      cases h
      exact gx_iret hx hb hr hlocks hG dX9_table_23
  · have h := ite_t c3 h
    refine lv_iconst (v := (-1 : Int32)) hx hb dX9_table_12 (by decide) ?_
    cases h
    exact gx_iret hx hb hr hlocks hG dX9_table_13

set_option maxHeartbeats 4000000 in
set_option maxRecDepth 100000 in
theorem c_M_tell (l : Launch) (g : GC) (σ : St) (x1 : Int32) (r : Int32) (w_length : Int32) (w_toldB : Nat → Int32) (w_toldC : Nat → Int32) (h : M_tell x1 (σ.1 3208) (σ.2.2.1 56) (σ.2.2.1 57) = some (r, w_length, w_toldB, w_toldC)) : Cn l g yX9_tell wsX9_tell 1 25 [.ref (g.2.1 50), .int x1] σ (some (.int r)) (mkS σ [(3208, w_length)] [] [(56, w_toldB), (57, w_toldC)] []) := by
  unfold Cn
  refine Met.ofW (cc := cX9_tell) (maxL := 3) (ret := (some .int)) (by decide) rfl ?_
  intro p e s m args below meth c s₁ B hml hv
  obtain ⟨hargs, hP0, hK⟩ := hv
  have hx := B.exec
  have hb := B.bytes
  have hr := B.returns
  have hts := atoms_spec (ws := wsX9_tell) B.pre
  have hown : s.vm.findClass RX9 = some m.cls := findClass_of_methodNamed B.named
  have hlocks := B.notSynchronized
  have hS9 : CallFix p m c cX9_tell 3 s args wsX9_tell RX9 := ⟨hx, hb, hml, hown, hts⟩
  have hinX9 : ∀ w ∈ wsX90, w ∈ wsX9_tell := fun w h => List.mem_cons_of_mem _ (List.mem_append_right _ (h))
  have hw0 := hts (.fieldLink RX9 33 "LikeNetsModel" "toldC" "[I") (List.mem_of_getElem? (i := 4) rfl)
  have hw1 := hts (.fieldLink RX9 30 "LikeNetsModel" "toldB" "[I") (List.mem_of_getElem? (i := 3) rfl)
  have hw2 := hts (.constantLong RX9 235 (5)) (List.mem_of_getElem? (i := 1) rfl)
  have hw3 := hts (.fieldLink RX9 26 "LikeNetsModel" "length" "I") (List.mem_of_getElem? (i := 2) rfl)
  have hf9 : entryFrame m args 3 = _ := (congrArg (fun a => entryFrame m a 3) hargs).trans (lg_entry_eq m [.ref (g.2.1 50), .int x1] 3)
  show Wg p l e 1 25 s m args below meth c g (some (.int r)) (mkS σ [(3208, w_length)] [] [(56, w_toldB), (57, w_toldC)] []) s.heap [] (entryFrame m args 3)
  rw [hf9]
  have hl := lv_entry ([.ref (g.2.1 50), .int x1]) (n := 3) (Nat.le_of_ble_eq_true rfl)
  generalize (lg_sl ([.ref (g.2.1 50), .int x1]) ++ List.replicate (3 - (lg_sl ([.ref (g.2.1 50), .int x1])).length) Slot.unset).toArray = ls at hl ⊢
  have hl : lv_has ls 3 [(0, .ref (g.2.1 50)), (1, .int x1)] := hl
  have hG : GW g s σ s.heap [] := ⟨hP0, va_S.rf⟩
  have hG : GW g s (mkS σ [(3208, (σ.1 3208))] [] [(56, (σ.2.2.1 56)), (57, (σ.2.2.1 57))] []) s.heap [] := GW_self [3208] [] [56, 57] [] hG
  unfold M_tell at h
  have n62 : ∀ (k21 : Int32 → Int32 → Int32 → (Nat → Int32) → (Nat → Int32) → Option (Int32 × Int32 × (Nat → Int32) × (Nat → Int32))) (hk21 : ∀ (x1 : Int32) (x2 : Int32) (v_length : Int32) (v_toldB : Nat → Int32) (v_toldC : Nat → Int32) (H : Heap) (locs : List Loc) (ls : Array Slot), lv_has ls 3 [(0, .ref (g.2.1 50)), (1, .int x1), (2, .int x2)] → GW g s (mkS σ [(3208, v_length)] [] [(56, v_toldB), (57, v_toldC)] []) H locs → k21 x1 x2 v_length v_toldB v_toldC = some (r, w_length, w_toldB, w_toldC) → Wg p l e 1 25 s m args below meth c g (some (.int r)) (mkS σ [(3208, w_length)] [] [(56, w_toldB), (57, w_toldC)] []) H locs (F0 m 21 ls [])) (x1 : Int32) (x2 : Int32) (t1 : Int32) (t2 : Int32) (v_length : Int32) (v_toldB : Nat → Int32) (v_toldC : Nat → Int32) (H : Heap) (locs : List Loc) (ls : Array Slot), lv_has ls 3 [(0, .ref (g.2.1 50)), (1, .int x1), (2, .int x2)] → GW g s (mkS σ [(3208, v_length)] [] [(56, v_toldB), (57, v_toldC)] []) H locs → M_tell_n62 k21 x1 x2 t1 t2 v_length v_toldB v_toldC = some (r, w_length, w_toldB, w_toldC) → Wg p l e 1 25 s m args below meth c g (some (.int r)) (mkS σ [(3208, w_length)] [] [(56, w_toldB), (57, w_toldC)] []) H locs (F0 m 62 ls [.int t2, .int t1, .ref (g.2.1 57)]) := by
    intro k21 hk21 x1 x2 t1 t2 v_length v_toldB v_toldC H locs ls hl hG h
    unfold M_tell_n62 at h
    obtain ⟨hg1, h⟩ := gd_some h
    refine gx_iast (σ' := (mkS σ [(3208, v_length)] [] [(56, v_toldB), (57, (upd v_toldC (t1.toNatClampNeg) t2))] [])) (f := v_toldC) hx hb hK hG (ga_57 g _) hg1 ((gs_57 g _ _).trans (congrArg (g_cells g) (mk_c 1 rfl rfl))) dX9_tell_62 (fun H locs hG => ?_)
    refine lv_iinc (v := (x2 + (1 : Int32))) (lv' := [(2, .int (x2 + (1 : Int32))), (0, .ref (g.2.1 50)), (1, .int x1)]) hx hb dX9_tell_63 hl (k := 2) rfl (congrArg (fun z => x2 + z) (by decide)) (Nat.le_of_ble_eq_true rfl) rfl (fun ls hl => ?_)
    refine lv_goto (tgt := 21) hx hb dX9_tell_66 (by decide) ?_
    exact hk21 x1 (x2 + (1 : Int32)) v_length v_toldB (upd v_toldC (t1.toNatClampNeg) t2) _ _ _ (lv_sub hl [1, 2, 0] rfl) hG h
  have n61 : ∀ (k21 : Int32 → Int32 → Int32 → (Nat → Int32) → (Nat → Int32) → Option (Int32 × Int32 × (Nat → Int32) × (Nat → Int32))) (hk21 : ∀ (x1 : Int32) (x2 : Int32) (v_length : Int32) (v_toldB : Nat → Int32) (v_toldC : Nat → Int32) (H : Heap) (locs : List Loc) (ls : Array Slot), lv_has ls 3 [(0, .ref (g.2.1 50)), (1, .int x1), (2, .int x2)] → GW g s (mkS σ [(3208, v_length)] [] [(56, v_toldB), (57, v_toldC)] []) H locs → k21 x1 x2 v_length v_toldB v_toldC = some (r, w_length, w_toldB, w_toldC) → Wg p l e 1 25 s m args below meth c g (some (.int r)) (mkS σ [(3208, w_length)] [] [(56, w_toldB), (57, w_toldC)] []) H locs (F0 m 21 ls [])) (x1 : Int32) (x2 : Int32) (t1 : Int32) (v_length : Int32) (v_toldB : Nat → Int32) (v_toldC : Nat → Int32) (H : Heap) (locs : List Loc) (ls : Array Slot), lv_has ls 3 [(0, .ref (g.2.1 50)), (1, .int x1), (2, .int x2)] → GW g s (mkS σ [(3208, v_length)] [] [(56, v_toldB), (57, v_toldC)] []) H locs → M_tell_n61 k21 x1 x2 t1 v_length v_toldB v_toldC = some (r, w_length, w_toldB, w_toldC) → Wg p l e 1 25 s m args below meth c g (some (.int r)) (mkS σ [(3208, w_length)] [] [(56, w_toldB), (57, w_toldC)] []) H locs (F0 m 61 ls [.int t1, .ref (g.2.1 57)]) := by
    intro k21 hk21 x1 x2 t1 v_length v_toldB v_toldC H locs ls hl hG h
    unfold M_tell_n61 at h
    refine lv_iconst (v := (0 : Int32)) hx hb dX9_tell_61 (by decide) ?_
    exact n62 k21 hk21 x1 x2 t1 (0 : Int32) v_length v_toldB v_toldC _ _ _ (lv_sub hl [0, 1, 2] rfl) hG h
  have n42 : ∀ (k21 : Int32 → Int32 → Int32 → (Nat → Int32) → (Nat → Int32) → Option (Int32 × Int32 × (Nat → Int32) × (Nat → Int32))) (hk21 : ∀ (x1 : Int32) (x2 : Int32) (v_length : Int32) (v_toldB : Nat → Int32) (v_toldC : Nat → Int32) (H : Heap) (locs : List Loc) (ls : Array Slot), lv_has ls 3 [(0, .ref (g.2.1 50)), (1, .int x1), (2, .int x2)] → GW g s (mkS σ [(3208, v_length)] [] [(56, v_toldB), (57, v_toldC)] []) H locs → k21 x1 x2 v_length v_toldB v_toldC = some (r, w_length, w_toldB, w_toldC) → Wg p l e 1 25 s m args below meth c g (some (.int r)) (mkS σ [(3208, w_length)] [] [(56, w_toldB), (57, w_toldC)] []) H locs (F0 m 21 ls [])) (x1 : Int32) (x2 : Int32) (t1 : Int32) (t2 : Int32) (v_length : Int32) (v_toldB : Nat → Int32) (v_toldC : Nat → Int32) (H : Heap) (locs : List Loc) (ls : Array Slot), lv_has ls 3 [(0, .ref (g.2.1 50)), (1, .int x1), (2, .int x2)] → GW g s (mkS σ [(3208, v_length)] [] [(56, v_toldB), (57, v_toldC)] []) H locs → M_tell_n42 k21 x1 x2 t1 t2 v_length v_toldB v_toldC = some (r, w_length, w_toldB, w_toldC) → Wg p l e 1 25 s m args below meth c g (some (.int r)) (mkS σ [(3208, w_length)] [] [(56, w_toldB), (57, w_toldC)] []) H locs (F0 m 42 ls [.int t2, .int t1, .ref (g.2.1 56)]) := by
    intro k21 hk21 x1 x2 t1 t2 v_length v_toldB v_toldC H locs ls hl hG h
    unfold M_tell_n42 at h
    obtain ⟨hg2, h⟩ := gd_some h
    refine gx_iast (σ' := (mkS σ [(3208, v_length)] [] [(56, (upd v_toldB (t1.toNatClampNeg) t2)), (57, v_toldC)] [])) (f := v_toldB) hx hb hK hG (ga_56 g _) hg2 ((gs_56 g _ _).trans (congrArg (g_cells g) (mk_c 0 rfl rfl))) dX9_tell_42 (fun H locs hG => ?_)
    refine lv_aload_n hx hb dX9_tell_43 rfl (lv_at hl 0 rfl) ?_
    refine gx_get (v := .ref (g.2.1 57)) (C := RX9) (T := TX9) (N := 44) hx hb hts hinX9 hown hK hG (ga_50 g _) rfl 10 (by decide) hw0 rfl rfl dX9_tell_44 ?_
    refine lv_iload_n hx hb dX9_tell_47 rfl (lv_at hl 2 rfl) ?_
    refine lv_iload_n hx hb dX9_tell_48 rfl (lv_at hl 2 rfl) ?_
    refine lv_if_le (tgt := 61) hx hb dX9_tell_49 (by decide) (fun c3 => ?_) (fun c3 => ?_)
    · have h := ite_t c3 h
      exact n61 k21 hk21 x1 x2 x2 v_length (upd v_toldB (t1.toNatClampNeg) t2) v_toldC _ _ _ (lv_sub hl [0, 1, 2] rfl) hG h
    · have h := ite_f c3 h
      refine lv_iload_n hx hb dX9_tell_52 rfl (lv_at hl 2 rfl) ?_
      refine lv_iload_n hx hb dX9_tell_53 rfl (lv_at hl 1 rfl) ?_
      refine lv_icmp_gt (tgt := 61) hx hb dX9_tell_54 (by decide) (fun c4 => ?_) (fun c4 => ?_)
      · have h := ite_t c4 h
        exact n61 k21 hk21 x1 x2 x2 v_length (upd v_toldB (t1.toNatClampNeg) t2) v_toldC _ _ _ (lv_sub hl [0, 1, 2] rfl) hG h
      · have h := ite_f c4 h
        refine lv_iconst (v := (1 : Int32)) hx hb dX9_tell_57 (by decide) ?_
        refine lv_goto (tgt := 62) hx hb dX9_tell_58 (by decide) ?_
        exact n62 k21 hk21 x1 x2 x2 (1 : Int32) v_length (upd v_toldB (t1.toNatClampNeg) t2) v_toldC _ _ _ (lv_sub hl [0, 1, 2] rfl) hG h
  have n69 : ∀ (v_length : Int32) (v_toldB : Nat → Int32) (v_toldC : Nat → Int32) (H : Heap) (locs : List Loc) (ls : Array Slot), lv_has ls 3 [] → GW g s (mkS σ [(3208, v_length)] [] [(56, v_toldB), (57, v_toldC)] []) H locs → M_tell_n69 v_length v_toldB v_toldC = some (r, w_length, w_toldB, w_toldC) → Wg p l e 1 25 s m args below meth c g (some (.int r)) (mkS σ [(3208, w_length)] [] [(56, w_toldB), (57, w_toldC)] []) H locs (F0 m 69 ls []) := by
    intro v_length v_toldB v_toldC H locs ls hl hG h
    unfold M_tell_n69 at h
    refine lv_iconst (v := (1 : Int32)) hx hb dX9_tell_69 (by decide) ?_
    cases h
    exact gx_iret hx hb hr hlocks hG dX9_tell_70
  have n21 : ∀ (k21 : Int32 → Int32 → Int32 → (Nat → Int32) → (Nat → Int32) → Option (Int32 × Int32 × (Nat → Int32) × (Nat → Int32))) (hk21 : ∀ (x1 : Int32) (x2 : Int32) (v_length : Int32) (v_toldB : Nat → Int32) (v_toldC : Nat → Int32) (H : Heap) (locs : List Loc) (ls : Array Slot), lv_has ls 3 [(0, .ref (g.2.1 50)), (1, .int x1), (2, .int x2)] → GW g s (mkS σ [(3208, v_length)] [] [(56, v_toldB), (57, v_toldC)] []) H locs → k21 x1 x2 v_length v_toldB v_toldC = some (r, w_length, w_toldB, w_toldC) → Wg p l e 1 25 s m args below meth c g (some (.int r)) (mkS σ [(3208, w_length)] [] [(56, w_toldB), (57, w_toldC)] []) H locs (F0 m 21 ls [])) (x1 : Int32) (x2 : Int32) (v_length : Int32) (v_toldB : Nat → Int32) (v_toldC : Nat → Int32) (H : Heap) (locs : List Loc) (ls : Array Slot), lv_has ls 3 [(0, .ref (g.2.1 50)), (1, .int x1), (2, .int x2)] → GW g s (mkS σ [(3208, v_length)] [] [(56, v_toldB), (57, v_toldC)] []) H locs → M_tell_n21 k21 x1 x2 v_length v_toldB v_toldC = some (r, w_length, w_toldB, w_toldC) → Wg p l e 1 25 s m args below meth c g (some (.int r)) (mkS σ [(3208, w_length)] [] [(56, w_toldB), (57, w_toldC)] []) H locs (F0 m 21 ls []) := by
    intro k21 hk21 x1 x2 v_length v_toldB v_toldC H locs ls hl hG h
    unfold M_tell_n21 at h
    refine lv_iload_n hx hb dX9_tell_21 rfl (lv_at hl 2 rfl) ?_
    refine lv_bipush (v := (6 : Int32)) hx hb dX9_tell_22 (by decide) ?_
    refine lv_icmp_ge (tgt := 69) hx hb dX9_tell_24 (by decide) (fun c5 => ?_) (fun c5 => ?_)
    · have h := ite_t c5 h
      exact n69 v_length v_toldB v_toldC _ _ _ (lv_sub hl [] rfl) hG h
    · have h := ite_f c5 h
      refine lv_aload_n hx hb dX9_tell_27 rfl (lv_at hl 0 rfl) ?_
      refine gx_get (v := .ref (g.2.1 56)) (C := RX9) (T := TX9) (N := 44) hx hb hts hinX9 hown hK hG (ga_50 g _) rfl 9 (by decide) hw1 rfl rfl dX9_tell_28 ?_
      refine lv_iload_n hx hb dX9_tell_31 rfl (lv_at hl 2 rfl) ?_
      refine lv_iload_n hx hb dX9_tell_32 rfl (lv_at hl 2 rfl) ?_
      refine lv_iload_n hx hb dX9_tell_33 rfl (lv_at hl 1 rfl) ?_
      refine lv_icmp_ge (tgt := 41) hx hb dX9_tell_34 (by decide) (fun c6 => ?_) (fun c6 => ?_)
      · have h := ite_t c6 h
        refine lv_iconst (v := (0 : Int32)) hx hb dX9_tell_41 (by decide) ?_
        exact n42 k21 hk21 x1 x2 x2 (0 : Int32) v_length v_toldB v_toldC _ _ _ (lv_sub hl [0, 1, 2] rfl) hG h
      · have h := ite_f c6 h
        refine lv_iconst (v := (1 : Int32)) hx hb dX9_tell_37 (by decide) ?_
        refine lv_goto (tgt := 42) hx hb dX9_tell_38 (by decide) ?_
        exact n42 k21 hk21 x1 x2 x2 (1 : Int32) v_length v_toldB v_toldC _ _ _ (lv_sub hl [0, 1, 2] rfl) hG h
  have l21 : ∀  (F : Nat) (x1 : Int32) (x2 : Int32) (v_length : Int32) (v_toldB : Nat → Int32) (v_toldC : Nat → Int32) (H : Heap) (locs : List Loc) (ls : Array Slot), lv_has ls 3 [(0, .ref (g.2.1 50)), (1, .int x1), (2, .int x2)] → GW g s (mkS σ [(3208, v_length)] [] [(56, v_toldB), (57, v_toldC)] []) H locs → M_tell_l21 F x1 x2 v_length v_toldB v_toldC = some (r, w_length, w_toldB, w_toldC) → Wg p l e 1 25 s m args below meth c g (some (.int r)) (mkS σ [(3208, w_length)] [] [(56, w_toldB), (57, w_toldC)] []) H locs (F0 m 21 ls []) := by
    intro F
    induction F with
    | zero => intro x1 x2 v_length v_toldB v_toldC H locs ls hl hG h; exact no_some h
    | succ F ih => intro x1 x2 v_length v_toldB v_toldC H locs ls hl hG h; exact n21 (fun x1 x2 v_length v_toldB v_toldC => M_tell_l21 F x1 x2 v_length v_toldB v_toldC) ih x1 x2 v_length v_toldB v_toldC H locs ls hl hG h
  refine lv_iload_n hx hb dX9_tell_0 rfl (lv_at hl 1 rfl) ?_
  refine lv_i2l hx hb dX9_tell_1 rfl ?_
  refine lv_lconst (v := (1 : Int64)) hx hb dX9_tell_2 (by decide) ?_
  refine lv_ldc2 hx hb hown hw2 dX9_tell_3 ?_
  obtain ⟨z7, hc8, h⟩ := bnd_some h
  refine gx_cS (σ' := (mkS σ [(3208, (σ.1 3208))] [] [(56, (σ.2.2.1 56)), (57, (σ.2.2.1 57))] [])) (r := (some (.int z7))) (rest := []) (As := [.long (x1.toInt64), .long (1 : Int64), .long (5 : Int64)]) hS9 (c_M_in l g (mkS σ [(3208, (σ.1 3208))] [] [(56, (σ.2.2.1 56)), (57, (σ.2.2.1 57))] []) (x1.toInt64) (1 : Int64) (5 : Int64) z7 hc8) rfl (va_cwS 3 hts gX9_tell_X9_in rfl rfl rfl (by decide +kernel) ⟨Nat.le_of_ble_eq_true rfl, Nat.le_of_ble_eq_true rfl⟩) hK hG rfl hl.1 rfl (Nat.le_of_ble_eq_true rfl) dX9_tell_6 (fun H locs hG => ?_)
  refine W.eq (g2 := F0 m 9 ls [.int z7]) rfl ?_
  refine lv_if_ne (tgt := 14) hx hb dX9_tell_9 (by decide) (fun c9 => ?_) (fun c9 => ?_)
  · have h := ite_f c9 h
    refine lv_aload_n hx hb dX9_tell_14 rfl (lv_at hl 0 rfl) ?_
    refine lv_iload_n hx hb dX9_tell_15 rfl (lv_at hl 1 rfl) ?_
    refine gx_put (σ' := (mkS σ [(3208, x1)] [] [(56, (σ.2.2.1 56)), (57, (σ.2.2.1 57))] [])) (C := RX9) (T := TX9) (N := 44) hx hb hts hinX9 tyX9 tyX9_ok nmX9 hown hK hG (ga_50 g _) rfl 8 (by decide) hw3 rfl rfl rfl rfl (Nat.le_of_ble_eq_true rfl) ((gf_3208 g _ _).trans (congrArg (g_cells g) (mk_a 0 rfl rfl))) dX9_tell_16 (fun H locs hG => ?_)
    refine lv_iconst (v := (0 : Int32)) hx hb dX9_tell_19 (by decide) ?_
    refine lv_istore_n (lv' := [(2, .int (0 : Int32)), (0, .ref (g.2.1 50)), (1, .int x1)]) hx hb dX9_tell_20 rfl hl (Nat.le_of_ble_eq_true rfl) rfl (fun ls hl => ?_)
    exact l21 FUEL x1 (0 : Int32) x1 (σ.2.2.1 56) (σ.2.2.1 57) _ _ _ (lv_sub hl [1, 2, 0] rfl) hG h
  · have h := ite_t c9 h
    refine lv_iconst (v := (-1 : Int32)) hx hb dX9_tell_12 (by decide) ?_
    cases h
    exact gx_iret hx hb hr hlocks hG dX9_tell_13

set_option maxHeartbeats 4000000 in
set_option maxRecDepth 100000 in
theorem c_M_take (l : Launch) (g : GC) (σ : St) (r : Int32) (w_clashP : Int32) (w_clashQ : Int32) (w_far : Int32) (w_heaps : Int32) (w_isMeasured : Int32) (w_length : Int32) (w_isTold : Nat → Int32) (w_tableA : Nat → Int32) (w_tableB : Nat → Int32) (w_tableC : Nat → Int32) (w_toldB : Nat → Int32) (w_toldC : Nat → Int32) (w_wayOf : Nat → Int32) (h : M_take (σ.1 3221) (σ.1 3222) (σ.1 3214) (σ.1 3215) (σ.1 3212) (σ.1 3208) (σ.1 3203) (σ.2.2.1 64) (σ.2.2.1 54) (σ.2.2.1 62) (σ.2.2.1 63) (σ.2.2.1 61) (σ.2.2.1 56) (σ.2.2.1 57) (σ.2.2.1 59) = some (r, w_clashP, w_clashQ, w_far, w_heaps, w_isMeasured, w_length, w_isTold, w_tableA, w_tableB, w_tableC, w_toldB, w_toldC, w_wayOf)) : Cn l g yX9_take wsX9_take 4 93 [.ref (g.2.1 50)] σ (some (.int r)) (mkS σ [(3221, w_clashP), (3222, w_clashQ), (3214, w_far), (3215, w_heaps), (3212, w_isMeasured), (3208, w_length)] [] [(64, w_isTold), (62, w_tableA), (63, w_tableB), (61, w_tableC), (56, w_toldB), (57, w_toldC), (59, w_wayOf)] []) := by
  unfold Cn
  refine Met.ofW (cc := cX9_take) (maxL := 4) (ret := (some .int)) (by decide) rfl ?_
  intro p e s m args below meth c s₁ B hml hv
  obtain ⟨hargs, hP0, hK⟩ := hv
  have hx := B.exec
  have hb := B.bytes
  have hr := B.returns
  have hts := atoms_spec (ws := wsX9_take) B.pre
  have hown : s.vm.findClass RX9 = some m.cls := findClass_of_methodNamed B.named
  have hlocks := B.notSynchronized
  have hS9 : CallFix p m c cX9_take 4 s args wsX9_take RX9 := ⟨hx, hb, hml, hown, hts⟩
  have hinX9 : ∀ w ∈ wsX90, w ∈ wsX9_take := fun w h => List.mem_cons_of_mem _ (List.mem_append_right _ (h))
  have hw0 := hts (.fieldLink RX9 177 "LikeNetsModel" "far" "I") (List.mem_of_getElem? (i := 1) rfl)
  have hw1 := hts (.fieldLink RX9 30 "LikeNetsModel" "toldB" "[I") (List.mem_of_getElem? (i := 5) rfl)
  have hw2 := hts (.fieldLink RX9 51 "LikeNetsModel" "tableB" "[I") (List.mem_of_getElem? (i := 3) rfl)
  have hw3 := hts (.fieldLink RX9 33 "LikeNetsModel" "toldC" "[I") (List.mem_of_getElem? (i := 6) rfl)
  have hw4 := hts (.fieldLink RX9 45 "LikeNetsModel" "tableC" "[I") (List.mem_of_getElem? (i := 4) rfl)
  have hw5 := hts (.constantLong RX9 235 (5)) (List.mem_of_getElem? (i := 2) rfl)
  have hf9 : entryFrame m args 4 = _ := (congrArg (fun a => entryFrame m a 4) hargs).trans (lg_entry_eq m [.ref (g.2.1 50)] 4)
  show Wg p l e 4 93 s m args below meth c g (some (.int r)) (mkS σ [(3221, w_clashP), (3222, w_clashQ), (3214, w_far), (3215, w_heaps), (3212, w_isMeasured), (3208, w_length)] [] [(64, w_isTold), (62, w_tableA), (63, w_tableB), (61, w_tableC), (56, w_toldB), (57, w_toldC), (59, w_wayOf)] []) s.heap [] (entryFrame m args 4)
  rw [hf9]
  have hl := lv_entry ([.ref (g.2.1 50)]) (n := 4) (Nat.le_of_ble_eq_true rfl)
  generalize (lg_sl ([.ref (g.2.1 50)]) ++ List.replicate (4 - (lg_sl ([.ref (g.2.1 50)])).length) Slot.unset).toArray = ls at hl ⊢
  have hl : lv_has ls 4 [(0, .ref (g.2.1 50))] := hl
  have hG : GW g s σ s.heap [] := ⟨hP0, va_S.rf⟩
  have hG : GW g s (mkS σ [(3221, (σ.1 3221)), (3222, (σ.1 3222)), (3214, (σ.1 3214)), (3215, (σ.1 3215)), (3212, (σ.1 3212)), (3208, (σ.1 3208))] [] [(64, (σ.2.2.1 64)), (62, (σ.2.2.1 62)), (63, (σ.2.2.1 63)), (61, (σ.2.2.1 61)), (56, (σ.2.2.1 56)), (57, (σ.2.2.1 57)), (59, (σ.2.2.1 59))] []) s.heap [] := GW_self [3221, 3222, 3214, 3215, 3212, 3208] [] [64, 62, 63, 61, 56, 57, 59] [] hG
  unfold M_take at h
  have n69 : ∀ (k30 : Int32 → Int32 → Int32 → Int32 → Int32 → Int32 → Int32 → Int32 → (Nat → Int32) → (Nat → Int32) → (Nat → Int32) → (Nat → Int32) → (Nat → Int32) → (Nat → Int32) → (Nat → Int32) → Option (Int32 × Int32 × Int32 × Int32 × Int32 × Int32 × Int32 × (Nat → Int32) × (Nat → Int32) × (Nat → Int32) × (Nat → Int32) × (Nat → Int32) × (Nat → Int32) × (Nat → Int32))) (hk30 : ∀ (x1 : Int32) (x2 : Int32) (v_clashP : Int32) (v_clashQ : Int32) (v_far : Int32) (v_heaps : Int32) (v_isMeasured : Int32) (v_length : Int32) (v_isTold : Nat → Int32) (v_tableA : Nat → Int32) (v_tableB : Nat → Int32) (v_tableC : Nat → Int32) (v_toldB : Nat → Int32) (v_toldC : Nat → Int32) (v_wayOf : Nat → Int32) (H : Heap) (locs : List Loc) (ls : Array Slot), lv_has ls 4 [(0, .ref (g.2.1 50)), (1, .int x1), (2, .int x2)] → GW g s (mkS σ [(3221, v_clashP), (3222, v_clashQ), (3214, v_far), (3215, v_heaps), (3212, v_isMeasured), (3208, v_length)] [] [(64, v_isTold), (62, v_tableA), (63, v_tableB), (61, v_tableC), (56, v_toldB), (57, v_toldC), (59, v_wayOf)] []) H locs → k30 x1 x2 v_clashP v_clashQ v_far v_heaps v_isMeasured v_length v_isTold v_tableA v_tableB v_tableC v_toldB v_toldC v_wayOf = some (r, w_clashP, w_clashQ, w_far, w_heaps, w_isMeasured, w_length, w_isTold, w_tableA, w_tableB, w_tableC, w_toldB, w_toldC, w_wayOf) → Wg p l e 4 93 s m args below meth c g (some (.int r)) (mkS σ [(3221, w_clashP), (3222, w_clashQ), (3214, w_far), (3215, w_heaps), (3212, w_isMeasured), (3208, w_length)] [] [(64, w_isTold), (62, w_tableA), (63, w_tableB), (61, w_tableC), (56, w_toldB), (57, w_toldC), (59, w_wayOf)] []) H locs (F0 m 30 ls [])) (x2 : Int32) (t0 : Int32) (v_clashP : Int32) (v_clashQ : Int32) (v_far : Int32) (v_heaps : Int32) (v_isMeasured : Int32) (v_length : Int32) (v_isTold : Nat → Int32) (v_tableA : Nat → Int32) (v_tableB : Nat → Int32) (v_tableC : Nat → Int32) (v_toldB : Nat → Int32) (v_toldC : Nat → Int32) (v_wayOf : Nat → Int32) (H : Heap) (locs : List Loc) (ls : Array Slot), lv_has ls 4 [(0, .ref (g.2.1 50)), (2, .int x2)] → GW g s (mkS σ [(3221, v_clashP), (3222, v_clashQ), (3214, v_far), (3215, v_heaps), (3212, v_isMeasured), (3208, v_length)] [] [(64, v_isTold), (62, v_tableA), (63, v_tableB), (61, v_tableC), (56, v_toldB), (57, v_toldC), (59, v_wayOf)] []) H locs → M_take_n69 k30 x2 t0 v_clashP v_clashQ v_far v_heaps v_isMeasured v_length v_isTold v_tableA v_tableB v_tableC v_toldB v_toldC v_wayOf = some (r, w_clashP, w_clashQ, w_far, w_heaps, w_isMeasured, w_length, w_isTold, w_tableA, w_tableB, w_tableC, w_toldB, w_toldC, w_wayOf) → Wg p l e 4 93 s m args below meth c g (some (.int r)) (mkS σ [(3221, w_clashP), (3222, w_clashQ), (3214, w_far), (3215, w_heaps), (3212, w_isMeasured), (3208, w_length)] [] [(64, w_isTold), (62, w_tableA), (63, w_tableB), (61, w_tableC), (56, w_toldB), (57, w_toldC), (59, w_wayOf)] []) H locs (F0 m 69 ls [.int t0]) := by
    intro k30 hk30 x2 t0 v_clashP v_clashQ v_far v_heaps v_isMeasured v_length v_isTold v_tableA v_tableB v_tableC v_toldB v_toldC v_wayOf H locs ls hl hG h
    unfold M_take_n69 at h
    refine lv_istore_n (lv' := [(1, .int t0), (0, .ref (g.2.1 50)), (2, .int x2)]) hx hb dX9_take_69 rfl hl (Nat.le_of_ble_eq_true rfl) rfl (fun ls hl => ?_)
    refine lv_iinc (v := (x2 + (1 : Int32))) (lv' := [(2, .int (x2 + (1 : Int32))), (1, .int t0), (0, .ref (g.2.1 50))]) hx hb dX9_take_70 hl (k := 2) rfl (congrArg (fun z => x2 + z) (by decide)) (Nat.le_of_ble_eq_true rfl) rfl (fun ls hl => ?_)
    refine lv_goto (tgt := 30) hx hb dX9_take_73 (by decide) ?_
    exact hk30 t0 (x2 + (1 : Int32)) v_clashP v_clashQ v_far v_heaps v_isMeasured v_length v_isTold v_tableA v_tableB v_tableC v_toldB v_toldC v_wayOf _ _ _ (lv_sub hl [2, 1, 0] rfl) hG h
  have n68 : ∀ (k30 : Int32 → Int32 → Int32 → Int32 → Int32 → Int32 → Int32 → Int32 → (Nat → Int32) → (Nat → Int32) → (Nat → Int32) → (Nat → Int32) → (Nat → Int32) → (Nat → Int32) → (Nat → Int32) → Option (Int32 × Int32 × Int32 × Int32 × Int32 × Int32 × Int32 × (Nat → Int32) × (Nat → Int32) × (Nat → Int32) × (Nat → Int32) × (Nat → Int32) × (Nat → Int32) × (Nat → Int32))) (hk30 : ∀ (x1 : Int32) (x2 : Int32) (v_clashP : Int32) (v_clashQ : Int32) (v_far : Int32) (v_heaps : Int32) (v_isMeasured : Int32) (v_length : Int32) (v_isTold : Nat → Int32) (v_tableA : Nat → Int32) (v_tableB : Nat → Int32) (v_tableC : Nat → Int32) (v_toldB : Nat → Int32) (v_toldC : Nat → Int32) (v_wayOf : Nat → Int32) (H : Heap) (locs : List Loc) (ls : Array Slot), lv_has ls 4 [(0, .ref (g.2.1 50)), (1, .int x1), (2, .int x2)] → GW g s (mkS σ [(3221, v_clashP), (3222, v_clashQ), (3214, v_far), (3215, v_heaps), (3212, v_isMeasured), (3208, v_length)] [] [(64, v_isTold), (62, v_tableA), (63, v_tableB), (61, v_tableC), (56, v_toldB), (57, v_toldC), (59, v_wayOf)] []) H locs → k30 x1 x2 v_clashP v_clashQ v_far v_heaps v_isMeasured v_length v_isTold v_tableA v_tableB v_tableC v_toldB v_toldC v_wayOf = some (r, w_clashP, w_clashQ, w_far, w_heaps, w_isMeasured, w_length, w_isTold, w_tableA, w_tableB, w_tableC, w_toldB, w_toldC, w_wayOf) → Wg p l e 4 93 s m args below meth c g (some (.int r)) (mkS σ [(3221, w_clashP), (3222, w_clashQ), (3214, w_far), (3215, w_heaps), (3212, w_isMeasured), (3208, w_length)] [] [(64, w_isTold), (62, w_tableA), (63, w_tableB), (61, w_tableC), (56, w_toldB), (57, w_toldC), (59, w_wayOf)] []) H locs (F0 m 30 ls [])) (x2 : Int32) (v_clashP : Int32) (v_clashQ : Int32) (v_far : Int32) (v_heaps : Int32) (v_isMeasured : Int32) (v_length : Int32) (v_isTold : Nat → Int32) (v_tableA : Nat → Int32) (v_tableB : Nat → Int32) (v_tableC : Nat → Int32) (v_toldB : Nat → Int32) (v_toldC : Nat → Int32) (v_wayOf : Nat → Int32) (H : Heap) (locs : List Loc) (ls : Array Slot), lv_has ls 4 [(0, .ref (g.2.1 50)), (2, .int x2)] → GW g s (mkS σ [(3221, v_clashP), (3222, v_clashQ), (3214, v_far), (3215, v_heaps), (3212, v_isMeasured), (3208, v_length)] [] [(64, v_isTold), (62, v_tableA), (63, v_tableB), (61, v_tableC), (56, v_toldB), (57, v_toldC), (59, v_wayOf)] []) H locs → M_take_n68 k30 x2 v_clashP v_clashQ v_far v_heaps v_isMeasured v_length v_isTold v_tableA v_tableB v_tableC v_toldB v_toldC v_wayOf = some (r, w_clashP, w_clashQ, w_far, w_heaps, w_isMeasured, w_length, w_isTold, w_tableA, w_tableB, w_tableC, w_toldB, w_toldC, w_wayOf) → Wg p l e 4 93 s m args below meth c g (some (.int r)) (mkS σ [(3221, w_clashP), (3222, w_clashQ), (3214, w_far), (3215, w_heaps), (3212, w_isMeasured), (3208, w_length)] [] [(64, w_isTold), (62, w_tableA), (63, w_tableB), (61, w_tableC), (56, w_toldB), (57, w_toldC), (59, w_wayOf)] []) H locs (F0 m 68 ls []) := by
    intro k30 hk30 x2 v_clashP v_clashQ v_far v_heaps v_isMeasured v_length v_isTold v_tableA v_tableB v_tableC v_toldB v_toldC v_wayOf H locs ls hl hG h
    unfold M_take_n68 at h
    refine lv_iconst (v := (0 : Int32)) hx hb dX9_take_68 (by decide) ?_
    exact n69 k30 hk30 x2 (0 : Int32) v_clashP v_clashQ v_far v_heaps v_isMeasured v_length v_isTold v_tableA v_tableB v_tableC v_toldB v_toldC v_wayOf _ _ _ (lv_sub hl [0, 1] rfl) hG h
  have n132 : ∀ (v_clashP : Int32) (v_clashQ : Int32) (v_far : Int32) (v_heaps : Int32) (v_isMeasured : Int32) (v_length : Int32) (v_isTold : Nat → Int32) (v_tableA : Nat → Int32) (v_tableB : Nat → Int32) (v_tableC : Nat → Int32) (v_toldB : Nat → Int32) (v_toldC : Nat → Int32) (v_wayOf : Nat → Int32) (H : Heap) (locs : List Loc) (ls : Array Slot), lv_has ls 4 [(0, .ref (g.2.1 50))] → GW g s (mkS σ [(3221, v_clashP), (3222, v_clashQ), (3214, v_far), (3215, v_heaps), (3212, v_isMeasured), (3208, v_length)] [] [(64, v_isTold), (62, v_tableA), (63, v_tableB), (61, v_tableC), (56, v_toldB), (57, v_toldC), (59, v_wayOf)] []) H locs → M_take_n132 v_clashP v_clashQ v_far v_heaps v_isMeasured v_length v_isTold v_tableA v_tableB v_tableC v_toldB v_toldC v_wayOf = some (r, w_clashP, w_clashQ, w_far, w_heaps, w_isMeasured, w_length, w_isTold, w_tableA, w_tableB, w_tableC, w_toldB, w_toldC, w_wayOf) → Wg p l e 4 93 s m args below meth c g (some (.int r)) (mkS σ [(3221, w_clashP), (3222, w_clashQ), (3214, w_far), (3215, w_heaps), (3212, w_isMeasured), (3208, w_length)] [] [(64, w_isTold), (62, w_tableA), (63, w_tableB), (61, w_tableC), (56, w_toldB), (57, w_toldC), (59, w_wayOf)] []) H locs (F0 m 132 ls []) := by
    intro v_clashP v_clashQ v_far v_heaps v_isMeasured v_length v_isTold v_tableA v_tableB v_tableC v_toldB v_toldC v_wayOf H locs ls hl hG h
    unfold M_take_n132 at h
    refine lv_aload_n hx hb dX9_take_132 rfl (lv_at hl 0 rfl) ?_
    refine gx_get (v := .int v_far) (C := RX9) (T := TX9) (N := 44) hx hb hts hinX9 hown hK hG (ga_50 g _) rfl 14 (by decide) hw0 rfl rfl dX9_take_133 ?_
    cases h
    exact gx_iret hx hb hr hlocks hG dX9_take_136
  have n94 : ∀ (k94 : Int32 → Int32 → Int32 → Int32 → Int32 → Int32 → Int32 → (Nat → Int32) → (Nat → Int32) → (Nat → Int32) → (Nat → Int32) → (Nat → Int32) → (Nat → Int32) → (Nat → Int32) → Option (Int32 × Int32 × Int32 × Int32 × Int32 × Int32 × Int32 × (Nat → Int32) × (Nat → Int32) × (Nat → Int32) × (Nat → Int32) × (Nat → Int32) × (Nat → Int32) × (Nat → Int32))) (hk94 : ∀ (x3 : Int32) (v_clashP : Int32) (v_clashQ : Int32) (v_far : Int32) (v_heaps : Int32) (v_isMeasured : Int32) (v_length : Int32) (v_isTold : Nat → Int32) (v_tableA : Nat → Int32) (v_tableB : Nat → Int32) (v_tableC : Nat → Int32) (v_toldB : Nat → Int32) (v_toldC : Nat → Int32) (v_wayOf : Nat → Int32) (H : Heap) (locs : List Loc) (ls : Array Slot), lv_has ls 4 [(0, .ref (g.2.1 50)), (3, .int x3)] → GW g s (mkS σ [(3221, v_clashP), (3222, v_clashQ), (3214, v_far), (3215, v_heaps), (3212, v_isMeasured), (3208, v_length)] [] [(64, v_isTold), (62, v_tableA), (63, v_tableB), (61, v_tableC), (56, v_toldB), (57, v_toldC), (59, v_wayOf)] []) H locs → k94 x3 v_clashP v_clashQ v_far v_heaps v_isMeasured v_length v_isTold v_tableA v_tableB v_tableC v_toldB v_toldC v_wayOf = some (r, w_clashP, w_clashQ, w_far, w_heaps, w_isMeasured, w_length, w_isTold, w_tableA, w_tableB, w_tableC, w_toldB, w_toldC, w_wayOf) → Wg p l e 4 93 s m args below meth c g (some (.int r)) (mkS σ [(3221, w_clashP), (3222, w_clashQ), (3214, w_far), (3215, w_heaps), (3212, w_isMeasured), (3208, w_length)] [] [(64, w_isTold), (62, w_tableA), (63, w_tableB), (61, w_tableC), (56, w_toldB), (57, w_toldC), (59, w_wayOf)] []) H locs (F0 m 94 ls [])) (x3 : Int32) (v_clashP : Int32) (v_clashQ : Int32) (v_far : Int32) (v_heaps : Int32) (v_isMeasured : Int32) (v_length : Int32) (v_isTold : Nat → Int32) (v_tableA : Nat → Int32) (v_tableB : Nat → Int32) (v_tableC : Nat → Int32) (v_toldB : Nat → Int32) (v_toldC : Nat → Int32) (v_wayOf : Nat → Int32) (H : Heap) (locs : List Loc) (ls : Array Slot), lv_has ls 4 [(0, .ref (g.2.1 50)), (3, .int x3)] → GW g s (mkS σ [(3221, v_clashP), (3222, v_clashQ), (3214, v_far), (3215, v_heaps), (3212, v_isMeasured), (3208, v_length)] [] [(64, v_isTold), (62, v_tableA), (63, v_tableB), (61, v_tableC), (56, v_toldB), (57, v_toldC), (59, v_wayOf)] []) H locs → M_take_n94 k94 x3 v_clashP v_clashQ v_far v_heaps v_isMeasured v_length v_isTold v_tableA v_tableB v_tableC v_toldB v_toldC v_wayOf = some (r, w_clashP, w_clashQ, w_far, w_heaps, w_isMeasured, w_length, w_isTold, w_tableA, w_tableB, w_tableC, w_toldB, w_toldC, w_wayOf) → Wg p l e 4 93 s m args below meth c g (some (.int r)) (mkS σ [(3221, w_clashP), (3222, w_clashQ), (3214, w_far), (3215, w_heaps), (3212, w_isMeasured), (3208, w_length)] [] [(64, w_isTold), (62, w_tableA), (63, w_tableB), (61, w_tableC), (56, w_toldB), (57, w_toldC), (59, w_wayOf)] []) H locs (F0 m 94 ls []) := by
    intro k94 hk94 x3 v_clashP v_clashQ v_far v_heaps v_isMeasured v_length v_isTold v_tableA v_tableB v_tableC v_toldB v_toldC v_wayOf H locs ls hl hG h
    unfold M_take_n94 at h
    refine lv_iload_n hx hb dX9_take_94 rfl (lv_at hl 1 rfl) ?_
    refine lv_aload_n hx hb dX9_take_95 rfl (lv_at hl 0 rfl) ?_
    refine gx_get (v := .int v_far) (C := RX9) (T := TX9) (N := 44) hx hb hts hinX9 hown hK hG (ga_50 g _) rfl 14 (by decide) hw0 rfl rfl dX9_take_96 ?_
    refine lv_icmp_gt (tgt := 132) hx hb dX9_take_99 (by decide) (fun c1 => ?_) (fun c1 => ?_)
    · have h := ite_t c1 h
      exact n132 v_clashP v_clashQ v_far v_heaps v_isMeasured v_length v_isTold v_tableA v_tableB v_tableC v_toldB v_toldC v_wayOf _ _ _ (lv_sub hl [0] rfl) hG h
    · have h := ite_f c1 h
      refine lv_aload_n hx hb dX9_take_102 rfl (lv_at hl 0 rfl) ?_
      refine gx_get (v := .ref (g.2.1 56)) (C := RX9) (T := TX9) (N := 44) hx hb hts hinX9 hown hK hG (ga_50 g _) rfl 9 (by decide) hw1 rfl rfl dX9_take_103 ?_
      refine lv_iload_n hx hb dX9_take_106 rfl (lv_at hl 1 rfl) ?_
      refine lv_aload_n hx hb dX9_take_107 rfl (lv_at hl 0 rfl) ?_
      refine gx_get (v := .ref (g.2.1 63)) (C := RX9) (T := TX9) (N := 44) hx hb hts hinX9 hown hK hG (ga_50 g _) rfl 19 (by decide) hw2 rfl rfl dX9_take_108 ?_
      refine lv_iload_n hx hb dX9_take_111 rfl (lv_at hl 1 rfl) ?_
      obtain ⟨hg2, h⟩ := gd_some h
      refine gx_iald (f := v_tableB) hx hb hK hG (ga_63 g _) hg2 dX9_take_112 ?_
      obtain ⟨hg3, h⟩ := gd_some h
      refine gx_iast (σ' := (mkS σ [(3221, v_clashP), (3222, v_clashQ), (3214, v_far), (3215, v_heaps), (3212, v_isMeasured), (3208, v_length)] [] [(64, v_isTold), (62, v_tableA), (63, v_tableB), (61, v_tableC), (56, (upd v_toldB (x3.toNatClampNeg) (v_tableB (x3.toNatClampNeg)))), (57, v_toldC), (59, v_wayOf)] [])) (f := v_toldB) hx hb hK hG (ga_56 g _) hg3 ((gs_56 g _ _).trans (congrArg (g_cells g) (mk_c 4 rfl rfl))) dX9_take_113 (fun H locs hG => ?_)
      refine lv_aload_n hx hb dX9_take_114 rfl (lv_at hl 0 rfl) ?_
      refine gx_get (v := .ref (g.2.1 57)) (C := RX9) (T := TX9) (N := 44) hx hb hts hinX9 hown hK hG (ga_50 g _) rfl 10 (by decide) hw3 rfl rfl dX9_take_115 ?_
      refine lv_iload_n hx hb dX9_take_118 rfl (lv_at hl 1 rfl) ?_
      refine lv_aload_n hx hb dX9_take_119 rfl (lv_at hl 0 rfl) ?_
      refine gx_get (v := .ref (g.2.1 61)) (C := RX9) (T := TX9) (N := 44) hx hb hts hinX9 hown hK hG (ga_50 g _) rfl 17 (by decide) hw4 rfl rfl dX9_take_120 ?_
      refine lv_iload_n hx hb dX9_take_123 rfl (lv_at hl 1 rfl) ?_
      refine gx_iald (f := v_tableC) hx hb hK hG (ga_61 g _) hg2 dX9_take_124 ?_
      refine gx_iast (σ' := (mkS σ [(3221, v_clashP), (3222, v_clashQ), (3214, v_far), (3215, v_heaps), (3212, v_isMeasured), (3208, v_length)] [] [(64, v_isTold), (62, v_tableA), (63, v_tableB), (61, v_tableC), (56, (upd v_toldB (x3.toNatClampNeg) (v_tableB (x3.toNatClampNeg)))), (57, (upd v_toldC (x3.toNatClampNeg) (v_tableC (x3.toNatClampNeg)))), (59, v_wayOf)] [])) (f := v_toldC) hx hb hK hG (ga_57 g _) hg3 ((gs_57 g _ _).trans (congrArg (g_cells g) (mk_c 5 rfl rfl))) dX9_take_125 (fun H locs hG => ?_)
      refine lv_iinc (v := (x3 + (1 : Int32))) (lv' := [(3, .int (x3 + (1 : Int32))), (0, .ref (g.2.1 50))]) hx hb dX9_take_126 hl (k := 1) rfl (congrArg (fun z => x3 + z) (by decide)) (Nat.le_of_ble_eq_true rfl) rfl (fun ls hl => ?_)
      refine lv_goto (tgt := 94) hx hb dX9_take_129 (by decide) ?_
      exact hk94 (x3 + (1 : Int32)) v_clashP v_clashQ v_far v_heaps v_isMeasured v_length v_isTold v_tableA v_tableB v_tableC (upd v_toldB (x3.toNatClampNeg) (v_tableB (x3.toNatClampNeg))) (upd v_toldC (x3.toNatClampNeg) (v_tableC (x3.toNatClampNeg))) v_wayOf _ _ _ (lv_sub hl [1, 0] rfl) hG h
  have l94 : ∀  (F : Nat) (x3 : Int32) (v_clashP : Int32) (v_clashQ : Int32) (v_far : Int32) (v_heaps : Int32) (v_isMeasured : Int32) (v_length : Int32) (v_isTold : Nat → Int32) (v_tableA : Nat → Int32) (v_tableB : Nat → Int32) (v_tableC : Nat → Int32) (v_toldB : Nat → Int32) (v_toldC : Nat → Int32) (v_wayOf : Nat → Int32) (H : Heap) (locs : List Loc) (ls : Array Slot), lv_has ls 4 [(0, .ref (g.2.1 50)), (3, .int x3)] → GW g s (mkS σ [(3221, v_clashP), (3222, v_clashQ), (3214, v_far), (3215, v_heaps), (3212, v_isMeasured), (3208, v_length)] [] [(64, v_isTold), (62, v_tableA), (63, v_tableB), (61, v_tableC), (56, v_toldB), (57, v_toldC), (59, v_wayOf)] []) H locs → M_take_l94 F x3 v_clashP v_clashQ v_far v_heaps v_isMeasured v_length v_isTold v_tableA v_tableB v_tableC v_toldB v_toldC v_wayOf = some (r, w_clashP, w_clashQ, w_far, w_heaps, w_isMeasured, w_length, w_isTold, w_tableA, w_tableB, w_tableC, w_toldB, w_toldC, w_wayOf) → Wg p l e 4 93 s m args below meth c g (some (.int r)) (mkS σ [(3221, w_clashP), (3222, w_clashQ), (3214, w_far), (3215, w_heaps), (3212, w_isMeasured), (3208, w_length)] [] [(64, w_isTold), (62, w_tableA), (63, w_tableB), (61, w_tableC), (56, w_toldB), (57, w_toldC), (59, w_wayOf)] []) H locs (F0 m 94 ls []) := by
    intro F
    induction F with
    | zero => intro x3 v_clashP v_clashQ v_far v_heaps v_isMeasured v_length v_isTold v_tableA v_tableB v_tableC v_toldB v_toldC v_wayOf H locs ls hl hG h; exact no_some h
    | succ F ih => intro x3 v_clashP v_clashQ v_far v_heaps v_isMeasured v_length v_isTold v_tableA v_tableB v_tableC v_toldB v_toldC v_wayOf H locs ls hl hG h; exact n94 (fun x3 v_clashP v_clashQ v_far v_heaps v_isMeasured v_length v_isTold v_tableA v_tableB v_tableC v_toldB v_toldC v_wayOf => M_take_l94 F x3 v_clashP v_clashQ v_far v_heaps v_isMeasured v_length v_isTold v_tableA v_tableB v_tableC v_toldB v_toldC v_wayOf) ih x3 v_clashP v_clashQ v_far v_heaps v_isMeasured v_length v_isTold v_tableA v_tableB v_tableC v_toldB v_toldC v_wayOf H locs ls hl hG h
  have n76 : ∀ (x1 : Int32) (v_clashP : Int32) (v_clashQ : Int32) (v_far : Int32) (v_heaps : Int32) (v_isMeasured : Int32) (v_length : Int32) (v_isTold : Nat → Int32) (v_tableA : Nat → Int32) (v_tableB : Nat → Int32) (v_tableC : Nat → Int32) (v_toldB : Nat → Int32) (v_toldC : Nat → Int32) (v_wayOf : Nat → Int32) (H : Heap) (locs : List Loc) (ls : Array Slot), lv_has ls 4 [(0, .ref (g.2.1 50)), (1, .int x1)] → GW g s (mkS σ [(3221, v_clashP), (3222, v_clashQ), (3214, v_far), (3215, v_heaps), (3212, v_isMeasured), (3208, v_length)] [] [(64, v_isTold), (62, v_tableA), (63, v_tableB), (61, v_tableC), (56, v_toldB), (57, v_toldC), (59, v_wayOf)] []) H locs → M_take_n76 x1 v_clashP v_clashQ v_far v_heaps v_isMeasured v_length v_isTold v_tableA v_tableB v_tableC v_toldB v_toldC v_wayOf = some (r, w_clashP, w_clashQ, w_far, w_heaps, w_isMeasured, w_length, w_isTold, w_tableA, w_tableB, w_tableC, w_toldB, w_toldC, w_wayOf) → Wg p l e 4 93 s m args below meth c g (some (.int r)) (mkS σ [(3221, w_clashP), (3222, w_clashQ), (3214, w_far), (3215, w_heaps), (3212, w_isMeasured), (3208, w_length)] [] [(64, w_isTold), (62, w_tableA), (63, w_tableB), (61, w_tableC), (56, w_toldB), (57, w_toldC), (59, w_wayOf)] []) H locs (F0 m 76 ls []) := by
    intro x1 v_clashP v_clashQ v_far v_heaps v_isMeasured v_length v_isTold v_tableA v_tableB v_tableC v_toldB v_toldC v_wayOf H locs ls hl hG h
    unfold M_take_n76 at h
    refine lv_iload_n hx hb dX9_take_76 rfl (lv_at hl 1 rfl) ?_
    refine lv_if_ne (tgt := 83) hx hb dX9_take_77 (by decide) (fun c4 => ?_) (fun c4 => ?_)
    · have h := ite_f c4 h
      refine lv_aload_n hx hb dX9_take_83 rfl (lv_at hl 0 rfl) ?_
      refine lv_aload_n hx hb dX9_take_84 rfl (lv_at hl 0 rfl) ?_
      refine gx_get (v := .int v_far) (C := RX9) (T := TX9) (N := 44) hx hb hts hinX9 hown hK hG (ga_50 g _) rfl 14 (by decide) hw0 rfl rfl dX9_take_85 ?_
      obtain ⟨z5, hc6, h⟩ := bnd_some h
      refine gx_cV (σ' := (mkS σ [(3221, v_clashP), (3222, v_clashQ), (3214, v_far), (3215, v_heaps), (3212, v_isMeasured), (3208, z5.2.1)] [] [(64, v_isTold), (62, v_tableA), (63, v_tableB), (61, v_tableC), (56, z5.2.2.1), (57, z5.2.2.2), (59, v_wayOf)] [])) (r := (some (.int z5.1))) (rest := []) (As := [.int v_far]) hS9 (c_M_tell l g (mkS σ [(3221, v_clashP), (3222, v_clashQ), (3214, v_far), (3215, v_heaps), (3212, v_isMeasured), (3208, v_length)] [] [(64, v_isTold), (62, v_tableA), (63, v_tableB), (61, v_tableC), (56, v_toldB), (57, v_toldC), (59, v_wayOf)] []) v_far z5.1 z5.2.1 z5.2.2.1 z5.2.2.2 hc6) (mk_mk rfl rfl rfl rfl) (cwV 1 hts gX9_take_X9_tell rfl rfl rfl (by decide +kernel) ⟨Nat.le_of_ble_eq_true rfl, Nat.le_of_ble_eq_true rfl⟩) hK hG (ga_50 g _) rfl rfl rfl hl.1 rfl (Nat.le_of_ble_eq_true rfl) dX9_take_88 (fun H locs hG => ?_)
      refine W.eq (g2 := F0 m 91 ls [.int z5.1]) rfl ?_
      refine lv_istore_n (lv' := [(2, .int z5.1), (0, .ref (g.2.1 50)), (1, .int x1)]) hx hb dX9_take_91 rfl hl (Nat.le_of_ble_eq_true rfl) rfl (fun ls hl => ?_)
      refine lv_iconst (v := (0 : Int32)) hx hb dX9_take_92 (by decide) ?_
      refine lv_istore_n (lv' := [(3, .int (0 : Int32)), (2, .int z5.1), (0, .ref (g.2.1 50)), (1, .int x1)]) hx hb dX9_take_93 rfl hl (Nat.le_of_ble_eq_true rfl) rfl (fun ls hl => ?_)
      exact l94 FUEL (0 : Int32) v_clashP v_clashQ v_far v_heaps v_isMeasured z5.2.1 v_isTold v_tableA v_tableB v_tableC z5.2.2.1 z5.2.2.2 v_wayOf _ _ _ (lv_sub hl [2, 0] rfl) hG h
    · have h := ite_t c4 h
      refine lv_bipush (v := (-5 : Int32)) hx hb dX9_take_80 (by decide) ?_
      cases h
      exact gx_iret hx hb hr hlocks hG dX9_take_82
  have n30 : ∀ (k30 : Int32 → Int32 → Int32 → Int32 → Int32 → Int32 → Int32 → Int32 → (Nat → Int32) → (Nat → Int32) → (Nat → Int32) → (Nat → Int32) → (Nat → Int32) → (Nat → Int32) → (Nat → Int32) → Option (Int32 × Int32 × Int32 × Int32 × Int32 × Int32 × Int32 × (Nat → Int32) × (Nat → Int32) × (Nat → Int32) × (Nat → Int32) × (Nat → Int32) × (Nat → Int32) × (Nat → Int32))) (hk30 : ∀ (x1 : Int32) (x2 : Int32) (v_clashP : Int32) (v_clashQ : Int32) (v_far : Int32) (v_heaps : Int32) (v_isMeasured : Int32) (v_length : Int32) (v_isTold : Nat → Int32) (v_tableA : Nat → Int32) (v_tableB : Nat → Int32) (v_tableC : Nat → Int32) (v_toldB : Nat → Int32) (v_toldC : Nat → Int32) (v_wayOf : Nat → Int32) (H : Heap) (locs : List Loc) (ls : Array Slot), lv_has ls 4 [(0, .ref (g.2.1 50)), (1, .int x1), (2, .int x2)] → GW g s (mkS σ [(3221, v_clashP), (3222, v_clashQ), (3214, v_far), (3215, v_heaps), (3212, v_isMeasured), (3208, v_length)] [] [(64, v_isTold), (62, v_tableA), (63, v_tableB), (61, v_tableC), (56, v_toldB), (57, v_toldC), (59, v_wayOf)] []) H locs → k30 x1 x2 v_clashP v_clashQ v_far v_heaps v_isMeasured v_length v_isTold v_tableA v_tableB v_tableC v_toldB v_toldC v_wayOf = some (r, w_clashP, w_clashQ, w_far, w_heaps, w_isMeasured, w_length, w_isTold, w_tableA, w_tableB, w_tableC, w_toldB, w_toldC, w_wayOf) → Wg p l e 4 93 s m args below meth c g (some (.int r)) (mkS σ [(3221, w_clashP), (3222, w_clashQ), (3214, w_far), (3215, w_heaps), (3212, w_isMeasured), (3208, w_length)] [] [(64, w_isTold), (62, w_tableA), (63, w_tableB), (61, w_tableC), (56, w_toldB), (57, w_toldC), (59, w_wayOf)] []) H locs (F0 m 30 ls [])) (x1 : Int32) (x2 : Int32) (v_clashP : Int32) (v_clashQ : Int32) (v_far : Int32) (v_heaps : Int32) (v_isMeasured : Int32) (v_length : Int32) (v_isTold : Nat → Int32) (v_tableA : Nat → Int32) (v_tableB : Nat → Int32) (v_tableC : Nat → Int32) (v_toldB : Nat → Int32) (v_toldC : Nat → Int32) (v_wayOf : Nat → Int32) (H : Heap) (locs : List Loc) (ls : Array Slot), lv_has ls 4 [(0, .ref (g.2.1 50)), (1, .int x1), (2, .int x2)] → GW g s (mkS σ [(3221, v_clashP), (3222, v_clashQ), (3214, v_far), (3215, v_heaps), (3212, v_isMeasured), (3208, v_length)] [] [(64, v_isTold), (62, v_tableA), (63, v_tableB), (61, v_tableC), (56, v_toldB), (57, v_toldC), (59, v_wayOf)] []) H locs → M_take_n30 k30 x1 x2 v_clashP v_clashQ v_far v_heaps v_isMeasured v_length v_isTold v_tableA v_tableB v_tableC v_toldB v_toldC v_wayOf = some (r, w_clashP, w_clashQ, w_far, w_heaps, w_isMeasured, w_length, w_isTold, w_tableA, w_tableB, w_tableC, w_toldB, w_toldC, w_wayOf) → Wg p l e 4 93 s m args below meth c g (some (.int r)) (mkS σ [(3221, w_clashP), (3222, w_clashQ), (3214, w_far), (3215, w_heaps), (3212, w_isMeasured), (3208, w_length)] [] [(64, w_isTold), (62, w_tableA), (63, w_tableB), (61, w_tableC), (56, w_toldB), (57, w_toldC), (59, w_wayOf)] []) H locs (F0 m 30 ls []) := by
    intro k30 hk30 x1 x2 v_clashP v_clashQ v_far v_heaps v_isMeasured v_length v_isTold v_tableA v_tableB v_tableC v_toldB v_toldC v_wayOf H locs ls hl hG h
    unfold M_take_n30 at h
    refine lv_iload_n hx hb dX9_take_30 rfl (lv_at hl 2 rfl) ?_
    refine lv_aload_n hx hb dX9_take_31 rfl (lv_at hl 0 rfl) ?_
    refine gx_get (v := .int v_far) (C := RX9) (T := TX9) (N := 44) hx hb hts hinX9 hown hK hG (ga_50 g _) rfl 14 (by decide) hw0 rfl rfl dX9_take_32 ?_
    refine lv_icmp_gt (tgt := 76) hx hb dX9_take_35 (by decide) (fun c7 => ?_) (fun c7 => ?_)
    · have h := ite_t c7 h
      exact n76 x1 v_clashP v_clashQ v_far v_heaps v_isMeasured v_length v_isTold v_tableA v_tableB v_tableC v_toldB v_toldC v_wayOf _ _ _ (lv_sub hl [0, 1] rfl) hG h
    · have h := ite_f c7 h
      refine lv_iload_n hx hb dX9_take_38 rfl (lv_at hl 1 rfl) ?_
      refine lv_if_eq (tgt := 76) hx hb dX9_take_39 (by decide) (fun c8 => ?_) (fun c8 => ?_)
      · have h := ite_t c8 h
        exact n76 x1 v_clashP v_clashQ v_far v_heaps v_isMeasured v_length v_isTold v_tableA v_tableB v_tableC v_toldB v_toldC v_wayOf _ _ _ (lv_sub hl [0, 1] rfl) hG h
      · have h := ite_f c8 h
        refine lv_aload_n hx hb dX9_take_42 rfl (lv_at hl 0 rfl) ?_
        refine gx_get (v := .ref (g.2.1 63)) (C := RX9) (T := TX9) (N := 44) hx hb hts hinX9 hown hK hG (ga_50 g _) rfl 19 (by decide) hw2 rfl rfl dX9_take_43 ?_
        refine lv_iload_n hx hb dX9_take_46 rfl (lv_at hl 2 rfl) ?_
        obtain ⟨hg9, h⟩ := gd_some h
        refine gx_iald (f := v_tableB) hx hb hK hG (ga_63 g _) hg9 dX9_take_47 ?_
        refine lv_bipush (v := (20 : Int32)) hx hb dX9_take_48 (by decide) ?_
        refine lv_icmp_gt (tgt := 68) hx hb dX9_take_50 (by decide) (fun c10 => ?_) (fun c10 => ?_)
        · have h := ite_t c10 h
          exact n68 k30 hk30 x2 v_clashP v_clashQ v_far v_heaps v_isMeasured v_length v_isTold v_tableA v_tableB v_tableC v_toldB v_toldC v_wayOf _ _ _ (lv_sub hl [0, 2] rfl) hG h
        · have h := ite_f c10 h
          refine lv_aload_n hx hb dX9_take_53 rfl (lv_at hl 0 rfl) ?_
          refine gx_get (v := .ref (g.2.1 61)) (C := RX9) (T := TX9) (N := 44) hx hb hts hinX9 hown hK hG (ga_50 g _) rfl 17 (by decide) hw4 rfl rfl dX9_take_54 ?_
          refine lv_iload_n hx hb dX9_take_57 rfl (lv_at hl 2 rfl) ?_
          refine gx_iald (f := v_tableC) hx hb hK hG (ga_61 g _) hg9 dX9_take_58 ?_
          refine lv_bipush (v := (20 : Int32)) hx hb dX9_take_59 (by decide) ?_
          refine lv_icmp_gt (tgt := 68) hx hb dX9_take_61 (by decide) (fun c11 => ?_) (fun c11 => ?_)
          · have h := ite_t c11 h
            exact n68 k30 hk30 x2 v_clashP v_clashQ v_far v_heaps v_isMeasured v_length v_isTold v_tableA v_tableB v_tableC v_toldB v_toldC v_wayOf _ _ _ (lv_sub hl [0, 2] rfl) hG h
          · have h := ite_f c11 h
            refine lv_iconst (v := (1 : Int32)) hx hb dX9_take_64 (by decide) ?_
            refine lv_goto (tgt := 69) hx hb dX9_take_65 (by decide) ?_
            exact n69 k30 hk30 x2 (1 : Int32) v_clashP v_clashQ v_far v_heaps v_isMeasured v_length v_isTold v_tableA v_tableB v_tableC v_toldB v_toldC v_wayOf _ _ _ (lv_sub hl [0, 2] rfl) hG h
  have l30 : ∀  (F : Nat) (x1 : Int32) (x2 : Int32) (v_clashP : Int32) (v_clashQ : Int32) (v_far : Int32) (v_heaps : Int32) (v_isMeasured : Int32) (v_length : Int32) (v_isTold : Nat → Int32) (v_tableA : Nat → Int32) (v_tableB : Nat → Int32) (v_tableC : Nat → Int32) (v_toldB : Nat → Int32) (v_toldC : Nat → Int32) (v_wayOf : Nat → Int32) (H : Heap) (locs : List Loc) (ls : Array Slot), lv_has ls 4 [(0, .ref (g.2.1 50)), (1, .int x1), (2, .int x2)] → GW g s (mkS σ [(3221, v_clashP), (3222, v_clashQ), (3214, v_far), (3215, v_heaps), (3212, v_isMeasured), (3208, v_length)] [] [(64, v_isTold), (62, v_tableA), (63, v_tableB), (61, v_tableC), (56, v_toldB), (57, v_toldC), (59, v_wayOf)] []) H locs → M_take_l30 F x1 x2 v_clashP v_clashQ v_far v_heaps v_isMeasured v_length v_isTold v_tableA v_tableB v_tableC v_toldB v_toldC v_wayOf = some (r, w_clashP, w_clashQ, w_far, w_heaps, w_isMeasured, w_length, w_isTold, w_tableA, w_tableB, w_tableC, w_toldB, w_toldC, w_wayOf) → Wg p l e 4 93 s m args below meth c g (some (.int r)) (mkS σ [(3221, w_clashP), (3222, w_clashQ), (3214, w_far), (3215, w_heaps), (3212, w_isMeasured), (3208, w_length)] [] [(64, w_isTold), (62, w_tableA), (63, w_tableB), (61, w_tableC), (56, w_toldB), (57, w_toldC), (59, w_wayOf)] []) H locs (F0 m 30 ls []) := by
    intro F
    induction F with
    | zero => intro x1 x2 v_clashP v_clashQ v_far v_heaps v_isMeasured v_length v_isTold v_tableA v_tableB v_tableC v_toldB v_toldC v_wayOf H locs ls hl hG h; exact no_some h
    | succ F ih => intro x1 x2 v_clashP v_clashQ v_far v_heaps v_isMeasured v_length v_isTold v_tableA v_tableB v_tableC v_toldB v_toldC v_wayOf H locs ls hl hG h; exact n30 (fun x1 x2 v_clashP v_clashQ v_far v_heaps v_isMeasured v_length v_isTold v_tableA v_tableB v_tableC v_toldB v_toldC v_wayOf => M_take_l30 F x1 x2 v_clashP v_clashQ v_far v_heaps v_isMeasured v_length v_isTold v_tableA v_tableB v_tableC v_toldB v_toldC v_wayOf) ih x1 x2 v_clashP v_clashQ v_far v_heaps v_isMeasured v_length v_isTold v_tableA v_tableB v_tableC v_toldB v_toldC v_wayOf H locs ls hl hG h
  have n27 : ∀ (t0 : Int32) (v_clashP : Int32) (v_clashQ : Int32) (v_far : Int32) (v_heaps : Int32) (v_isMeasured : Int32) (v_length : Int32) (v_isTold : Nat → Int32) (v_tableA : Nat → Int32) (v_tableB : Nat → Int32) (v_tableC : Nat → Int32) (v_toldB : Nat → Int32) (v_toldC : Nat → Int32) (v_wayOf : Nat → Int32) (H : Heap) (locs : List Loc) (ls : Array Slot), lv_has ls 4 [(0, .ref (g.2.1 50))] → GW g s (mkS σ [(3221, v_clashP), (3222, v_clashQ), (3214, v_far), (3215, v_heaps), (3212, v_isMeasured), (3208, v_length)] [] [(64, v_isTold), (62, v_tableA), (63, v_tableB), (61, v_tableC), (56, v_toldB), (57, v_toldC), (59, v_wayOf)] []) H locs → M_take_n27 t0 v_clashP v_clashQ v_far v_heaps v_isMeasured v_length v_isTold v_tableA v_tableB v_tableC v_toldB v_toldC v_wayOf = some (r, w_clashP, w_clashQ, w_far, w_heaps, w_isMeasured, w_length, w_isTold, w_tableA, w_tableB, w_tableC, w_toldB, w_toldC, w_wayOf) → Wg p l e 4 93 s m args below meth c g (some (.int r)) (mkS σ [(3221, w_clashP), (3222, w_clashQ), (3214, w_far), (3215, w_heaps), (3212, w_isMeasured), (3208, w_length)] [] [(64, w_isTold), (62, w_tableA), (63, w_tableB), (61, w_tableC), (56, w_toldB), (57, w_toldC), (59, w_wayOf)] []) H locs (F0 m 27 ls [.int t0]) := by
    intro t0 v_clashP v_clashQ v_far v_heaps v_isMeasured v_length v_isTold v_tableA v_tableB v_tableC v_toldB v_toldC v_wayOf H locs ls hl hG h
    unfold M_take_n27 at h
    refine lv_istore_n (lv' := [(1, .int t0), (0, .ref (g.2.1 50))]) hx hb dX9_take_27 rfl hl (Nat.le_of_ble_eq_true rfl) rfl (fun ls hl => ?_)
    refine lv_iconst (v := (0 : Int32)) hx hb dX9_take_28 (by decide) ?_
    refine lv_istore_n (lv' := [(2, .int (0 : Int32)), (1, .int t0), (0, .ref (g.2.1 50))]) hx hb dX9_take_29 rfl hl (Nat.le_of_ble_eq_true rfl) rfl (fun ls hl => ?_)
    exact l30 FUEL t0 (0 : Int32) v_clashP v_clashQ v_far v_heaps v_isMeasured v_length v_isTold v_tableA v_tableB v_tableC v_toldB v_toldC v_wayOf _ _ _ (lv_sub hl [2, 1, 0] rfl) hG h
  have n26 : ∀ (v_clashP : Int32) (v_clashQ : Int32) (v_far : Int32) (v_heaps : Int32) (v_isMeasured : Int32) (v_length : Int32) (v_isTold : Nat → Int32) (v_tableA : Nat → Int32) (v_tableB : Nat → Int32) (v_tableC : Nat → Int32) (v_toldB : Nat → Int32) (v_toldC : Nat → Int32) (v_wayOf : Nat → Int32) (H : Heap) (locs : List Loc) (ls : Array Slot), lv_has ls 4 [(0, .ref (g.2.1 50))] → GW g s (mkS σ [(3221, v_clashP), (3222, v_clashQ), (3214, v_far), (3215, v_heaps), (3212, v_isMeasured), (3208, v_length)] [] [(64, v_isTold), (62, v_tableA), (63, v_tableB), (61, v_tableC), (56, v_toldB), (57, v_toldC), (59, v_wayOf)] []) H locs → M_take_n26 v_clashP v_clashQ v_far v_heaps v_isMeasured v_length v_isTold v_tableA v_tableB v_tableC v_toldB v_toldC v_wayOf = some (r, w_clashP, w_clashQ, w_far, w_heaps, w_isMeasured, w_length, w_isTold, w_tableA, w_tableB, w_tableC, w_toldB, w_toldC, w_wayOf) → Wg p l e 4 93 s m args below meth c g (some (.int r)) (mkS σ [(3221, w_clashP), (3222, w_clashQ), (3214, w_far), (3215, w_heaps), (3212, w_isMeasured), (3208, w_length)] [] [(64, w_isTold), (62, w_tableA), (63, w_tableB), (61, w_tableC), (56, w_toldB), (57, w_toldC), (59, w_wayOf)] []) H locs (F0 m 26 ls []) := by
    intro v_clashP v_clashQ v_far v_heaps v_isMeasured v_length v_isTold v_tableA v_tableB v_tableC v_toldB v_toldC v_wayOf H locs ls hl hG h
    unfold M_take_n26 at h
    refine lv_iconst (v := (0 : Int32)) hx hb dX9_take_26 (by decide) ?_
    exact n27 (0 : Int32) v_clashP v_clashQ v_far v_heaps v_isMeasured v_length v_isTold v_tableA v_tableB v_tableC v_toldB v_toldC v_wayOf _ _ _ (lv_sub hl [0] rfl) hG h
  refine lv_aload_n hx hb dX9_take_0 rfl (lv_at hl 0 rfl) ?_
  obtain ⟨z12, hc13, h⟩ := bnd_some h
  refine gx_cV (σ' := (mkS σ [(3221, z12.2.1), (3222, z12.2.2.1), (3214, z12.2.2.2.1), (3215, z12.2.2.2.2.1), (3212, z12.2.2.2.2.2.1), (3208, (σ.1 3208))] [] [(64, z12.2.2.2.2.2.2.1), (62, z12.2.2.2.2.2.2.2.1), (63, z12.2.2.2.2.2.2.2.2.1), (61, z12.2.2.2.2.2.2.2.2.2.1), (56, (σ.2.2.1 56)), (57, (σ.2.2.1 57)), (59, z12.2.2.2.2.2.2.2.2.2.2)] [])) (r := (some (.int z12.1))) (rest := []) (As := []) hS9 (c_M_isLike l g (mkS σ [(3221, (σ.1 3221)), (3222, (σ.1 3222)), (3214, (σ.1 3214)), (3215, (σ.1 3215)), (3212, (σ.1 3212)), (3208, (σ.1 3208))] [] [(64, (σ.2.2.1 64)), (62, (σ.2.2.1 62)), (63, (σ.2.2.1 63)), (61, (σ.2.2.1 61)), (56, (σ.2.2.1 56)), (57, (σ.2.2.1 57)), (59, (σ.2.2.1 59))] []) z12.1 z12.2.1 z12.2.2.1 z12.2.2.2.1 z12.2.2.2.2.1 z12.2.2.2.2.2.1 z12.2.2.2.2.2.2.1 z12.2.2.2.2.2.2.2.1 z12.2.2.2.2.2.2.2.2.1 z12.2.2.2.2.2.2.2.2.2.1 z12.2.2.2.2.2.2.2.2.2.2 hc13) (mk_mk rfl rfl rfl rfl) (cwV 0 hts gX9_take_X9_isLike rfl rfl rfl (by decide +kernel) ⟨Nat.le_of_ble_eq_true rfl, Nat.le_of_ble_eq_true rfl⟩) hK hG (ga_50 g _) rfl rfl rfl hl.1 rfl (Nat.le_of_ble_eq_true rfl) dX9_take_1 (fun H locs hG => ?_)
  refine W.eq (g2 := F0 m 4 ls [.int z12.1]) rfl ?_
  refine lv_if_eq (tgt := 26) hx hb dX9_take_4 (by decide) (fun c14 => ?_) (fun c14 => ?_)
  · have h := ite_t c14 h
    exact n26 z12.2.1 z12.2.2.1 z12.2.2.2.1 z12.2.2.2.2.1 z12.2.2.2.2.2.1 (σ.1 3208) z12.2.2.2.2.2.2.1 z12.2.2.2.2.2.2.2.1 z12.2.2.2.2.2.2.2.2.1 z12.2.2.2.2.2.2.2.2.2.1 (σ.2.2.1 56) (σ.2.2.1 57) z12.2.2.2.2.2.2.2.2.2.2 _ _ _ (lv_sub hl [0] rfl) hG h
  · have h := ite_f c14 h
    refine lv_aload_n hx hb dX9_take_7 rfl (lv_at hl 0 rfl) ?_
    refine gx_get (v := .int z12.2.2.2.1) (C := RX9) (T := TX9) (N := 44) hx hb hts hinX9 hown hK hG (ga_50 g _) rfl 14 (by decide) hw0 rfl rfl dX9_take_8 ?_
    refine lv_i2l hx hb dX9_take_11 rfl ?_
    refine lv_lconst (v := (1 : Int64)) hx hb dX9_take_12 (by decide) ?_
    refine lv_ldc2 hx hb hown hw5 dX9_take_13 ?_
    obtain ⟨z15, hc16, h⟩ := bnd_some h
    refine gx_cS (σ' := (mkS σ [(3221, z12.2.1), (3222, z12.2.2.1), (3214, z12.2.2.2.1), (3215, z12.2.2.2.2.1), (3212, z12.2.2.2.2.2.1), (3208, (σ.1 3208))] [] [(64, z12.2.2.2.2.2.2.1), (62, z12.2.2.2.2.2.2.2.1), (63, z12.2.2.2.2.2.2.2.2.1), (61, z12.2.2.2.2.2.2.2.2.2.1), (56, (σ.2.2.1 56)), (57, (σ.2.2.1 57)), (59, z12.2.2.2.2.2.2.2.2.2.2)] [])) (r := (some (.int z15))) (rest := []) (As := [.long (z12.2.2.2.1.toInt64), .long (1 : Int64), .long (5 : Int64)]) hS9 (c_M_in l g (mkS σ [(3221, z12.2.1), (3222, z12.2.2.1), (3214, z12.2.2.2.1), (3215, z12.2.2.2.2.1), (3212, z12.2.2.2.2.2.1), (3208, (σ.1 3208))] [] [(64, z12.2.2.2.2.2.2.1), (62, z12.2.2.2.2.2.2.2.1), (63, z12.2.2.2.2.2.2.2.2.1), (61, z12.2.2.2.2.2.2.2.2.2.1), (56, (σ.2.2.1 56)), (57, (σ.2.2.1 57)), (59, z12.2.2.2.2.2.2.2.2.2.2)] []) (z12.2.2.2.1.toInt64) (1 : Int64) (5 : Int64) z15 hc16) rfl (va_cwS 3 hts gX9_take_X9_in rfl rfl rfl (by decide +kernel) ⟨Nat.le_of_ble_eq_true rfl, Nat.le_of_ble_eq_true rfl⟩) hK hG rfl hl.1 rfl (Nat.le_of_ble_eq_true rfl) dX9_take_16 (fun H locs hG => ?_)
    refine W.eq (g2 := F0 m 19 ls [.int z15]) rfl ?_
    refine lv_if_eq (tgt := 26) hx hb dX9_take_19 (by decide) (fun c17 => ?_) (fun c17 => ?_)
    · have h := ite_t c17 h
      exact n26 z12.2.1 z12.2.2.1 z12.2.2.2.1 z12.2.2.2.2.1 z12.2.2.2.2.2.1 (σ.1 3208) z12.2.2.2.2.2.2.1 z12.2.2.2.2.2.2.2.1 z12.2.2.2.2.2.2.2.2.1 z12.2.2.2.2.2.2.2.2.2.1 (σ.2.2.1 56) (σ.2.2.1 57) z12.2.2.2.2.2.2.2.2.2.2 _ _ _ (lv_sub hl [0] rfl) hG h
    · have h := ite_f c17 h
      refine lv_iconst (v := (1 : Int32)) hx hb dX9_take_22 (by decide) ?_
      refine lv_goto (tgt := 27) hx hb dX9_take_23 (by decide) ?_
      exact n27 (1 : Int32) z12.2.1 z12.2.2.1 z12.2.2.2.1 z12.2.2.2.2.1 z12.2.2.2.2.2.1 (σ.1 3208) z12.2.2.2.2.2.2.1 z12.2.2.2.2.2.2.2.1 z12.2.2.2.2.2.2.2.2.1 z12.2.2.2.2.2.2.2.2.2.1 (σ.2.2.1 56) (σ.2.2.1 57) z12.2.2.2.2.2.2.2.2.2.2 _ _ _ (lv_sub hl [0] rfl) hG h

set_option maxHeartbeats 4000000 in
set_option maxRecDepth 100000 in
theorem c_M_third (l : Launch) (g : GC) (σ : St) (x1 : Int32) (x2 : Int32) (x3 : Int32) (r : Int32) (w_all : Int64) (w_sizes : Nat → Int64) (w_third : Nat → Int64) (h : M_third x1 x2 x3 (σ.1 3208) (σ.2.1 3224) (σ.2.2.1 56) (σ.2.2.1 57) (σ.2.2.2 65) (σ.2.2.2 66) = some (r, w_all, w_sizes, w_third)) : Cn l g yX9_third wsX9_third 3 69 [.ref (g.2.1 50), .int x1, .int x2, .int x3] σ (some (.int r)) (mkS σ [] [(3224, w_all)] [] [(65, w_sizes), (66, w_third)]) := by
  unfold Cn
  refine Met.ofW (cc := cX9_third) (maxL := 4) (ret := (some .int)) (by decide) rfl ?_
  intro p e s m args below meth c s₁ B hml hv
  obtain ⟨hargs, hP0, hK⟩ := hv
  have hx := B.exec
  have hb := B.bytes
  have hr := B.returns
  have hts := atoms_spec (ws := wsX9_third) B.pre
  have hown : s.vm.findClass RX9 = some m.cls := findClass_of_methodNamed B.named
  have hlocks := B.notSynchronized
  have hS9 : CallFix p m c cX9_third 4 s args wsX9_third RX9 := ⟨hx, hb, hml, hown, hts⟩
  have hinX9 : ∀ w ∈ wsX90, w ∈ wsX9_third := fun w h => List.mem_cons_of_mem _ (List.mem_append_right _ (h))
  have hw0 := hts (.fieldLink RX9 26 "LikeNetsModel" "length" "I") (List.mem_of_getElem? (i := 1) rfl)
  have hw1 := hts (.fieldLink RX9 61 "LikeNetsModel" "third" "[J") (List.mem_of_getElem? (i := 2) rfl)
  have hf9 : entryFrame m args 4 = _ := (congrArg (fun a => entryFrame m a 4) hargs).trans (lg_entry_eq m [.ref (g.2.1 50), .int x1, .int x2, .int x3] 4)
  show Wg p l e 3 69 s m args below meth c g (some (.int r)) (mkS σ [] [(3224, w_all)] [] [(65, w_sizes), (66, w_third)]) s.heap [] (entryFrame m args 4)
  rw [hf9]
  have hl := lv_entry ([.ref (g.2.1 50), .int x1, .int x2, .int x3]) (n := 4) (Nat.le_of_ble_eq_true rfl)
  generalize (lg_sl ([.ref (g.2.1 50), .int x1, .int x2, .int x3]) ++ List.replicate (4 - (lg_sl ([.ref (g.2.1 50), .int x1, .int x2, .int x3])).length) Slot.unset).toArray = ls at hl ⊢
  have hl : lv_has ls 4 [(0, .ref (g.2.1 50)), (1, .int x1), (2, .int x2), (3, .int x3)] := hl
  have hG : GW g s σ s.heap [] := ⟨hP0, va_S.rf⟩
  have hG : GW g s (mkS σ [] [(3224, (σ.2.1 3224))] [] [(65, (σ.2.2.2 65)), (66, (σ.2.2.2 66))]) s.heap [] := GW_self [] [3224] [] [65, 66] hG
  unfold M_third at h
  have n42 : ∀ (v_all : Int64) (v_sizes : Nat → Int64) (v_third : Nat → Int64) (H : Heap) (locs : List Loc) (ls : Array Slot), lv_has ls 4 [] → GW g s (mkS σ [] [(3224, v_all)] [] [(65, v_sizes), (66, v_third)]) H locs → M_third_n42 v_all v_sizes v_third = some (r, w_all, w_sizes, w_third) → Wg p l e 3 69 s m args below meth c g (some (.int r)) (mkS σ [] [(3224, w_all)] [] [(65, w_sizes), (66, w_third)]) H locs (F0 m 42 ls []) := by
    intro v_all v_sizes v_third H locs ls hl hG h
    unfold M_third_n42 at h
    refine lv_iconst (v := (-1 : Int32)) hx hb dX9_third_42 (by decide) ?_
    cases h
    exact gx_iret hx hb hr hlocks hG dX9_third_43
  have n73 : ∀ (t0 : Int32) (v_all : Int64) (v_sizes : Nat → Int64) (v_third : Nat → Int64) (H : Heap) (locs : List Loc) (ls : Array Slot), lv_has ls 4 [] → GW g s (mkS σ [] [(3224, v_all)] [] [(65, v_sizes), (66, v_third)]) H locs → M_third_n73 t0 v_all v_sizes v_third = some (r, w_all, w_sizes, w_third) → Wg p l e 3 69 s m args below meth c g (some (.int r)) (mkS σ [] [(3224, w_all)] [] [(65, w_sizes), (66, w_third)]) H locs (F0 m 73 ls [.int t0]) := by
    intro t0 v_all v_sizes v_third H locs ls hl hG h
    unfold M_third_n73 at h
    cases h
    exact gx_iret hx hb hr hlocks hG dX9_third_73
  refine lv_iload_n hx hb dX9_third_0 rfl (lv_at hl 1 rfl) ?_
  refine lv_i2l hx hb dX9_third_1 rfl ?_
  refine lv_lconst (v := (0 : Int64)) hx hb dX9_third_2 (by decide) ?_
  refine lv_aload_n hx hb dX9_third_3 rfl (lv_at hl 0 rfl) ?_
  refine gx_get (v := .int (σ.1 3208)) (C := RX9) (T := TX9) (N := 44) hx hb hts hinX9 hown hK hG (ga_50 g _) rfl 8 (by decide) hw0 rfl rfl dX9_third_4 ?_
  refine lv_i2l hx hb dX9_third_7 rfl ?_
  obtain ⟨z1, hc2, h⟩ := bnd_some h
  refine gx_cS (σ' := (mkS σ [] [(3224, (σ.2.1 3224))] [] [(65, (σ.2.2.2 65)), (66, (σ.2.2.2 66))])) (r := (some (.int z1))) (rest := []) (As := [.long (x1.toInt64), .long (0 : Int64), .long ((σ.1 3208).toInt64)]) hS9 (c_M_in l g (mkS σ [] [(3224, (σ.2.1 3224))] [] [(65, (σ.2.2.2 65)), (66, (σ.2.2.2 66))]) (x1.toInt64) (0 : Int64) ((σ.1 3208).toInt64) z1 hc2) rfl (va_cwS 3 hts gX9_third_X9_in rfl rfl rfl (by decide +kernel) ⟨Nat.le_of_ble_eq_true rfl, Nat.le_of_ble_eq_true rfl⟩) hK hG rfl hl.1 rfl (Nat.le_of_ble_eq_true rfl) dX9_third_8 (fun H locs hG => ?_)
  refine W.eq (g2 := F0 m 11 ls [.int z1]) rfl ?_
  refine lv_if_eq (tgt := 42) hx hb dX9_third_11 (by decide) (fun c3 => ?_) (fun c3 => ?_)
  · have h := ite_t c3 h
    exact n42 (σ.2.1 3224) (σ.2.2.2 65) (σ.2.2.2 66) _ _ _ (lv_sub hl [] rfl) hG h
  · have h := ite_f c3 h
    refine lv_iload_n hx hb dX9_third_14 rfl (lv_at hl 2 rfl) ?_
    refine lv_i2l hx hb dX9_third_15 rfl ?_
    refine lv_lconst (v := (0 : Int64)) hx hb dX9_third_16 (by decide) ?_
    refine lv_aload_n hx hb dX9_third_17 rfl (lv_at hl 0 rfl) ?_
    refine gx_get (v := .int (σ.1 3208)) (C := RX9) (T := TX9) (N := 44) hx hb hts hinX9 hown hK hG (ga_50 g _) rfl 8 (by decide) hw0 rfl rfl dX9_third_18 ?_
    refine lv_i2l hx hb dX9_third_21 rfl ?_
    obtain ⟨z4, hc5, h⟩ := bnd_some h
    refine gx_cS (σ' := (mkS σ [] [(3224, (σ.2.1 3224))] [] [(65, (σ.2.2.2 65)), (66, (σ.2.2.2 66))])) (r := (some (.int z4))) (rest := []) (As := [.long (x2.toInt64), .long (0 : Int64), .long ((σ.1 3208).toInt64)]) hS9 (c_M_in l g (mkS σ [] [(3224, (σ.2.1 3224))] [] [(65, (σ.2.2.2 65)), (66, (σ.2.2.2 66))]) (x2.toInt64) (0 : Int64) ((σ.1 3208).toInt64) z4 hc5) rfl (va_cwS 3 hts gX9_third_X9_in rfl rfl rfl (by decide +kernel) ⟨Nat.le_of_ble_eq_true rfl, Nat.le_of_ble_eq_true rfl⟩) hK hG rfl hl.1 rfl (Nat.le_of_ble_eq_true rfl) dX9_third_22 (fun H locs hG => ?_)
    refine W.eq (g2 := F0 m 25 ls [.int z4]) rfl ?_
    refine lv_if_eq (tgt := 42) hx hb dX9_third_25 (by decide) (fun c6 => ?_) (fun c6 => ?_)
    · have h := ite_t c6 h
      exact n42 (σ.2.1 3224) (σ.2.2.2 65) (σ.2.2.2 66) _ _ _ (lv_sub hl [] rfl) hG h
    · have h := ite_f c6 h
      refine lv_iload_n hx hb dX9_third_28 rfl (lv_at hl 3 rfl) ?_
      refine lv_i2l hx hb dX9_third_29 rfl ?_
      refine lv_lconst (v := (0 : Int64)) hx hb dX9_third_30 (by decide) ?_
      refine lv_aload_n hx hb dX9_third_31 rfl (lv_at hl 0 rfl) ?_
      refine gx_get (v := .int (σ.1 3208)) (C := RX9) (T := TX9) (N := 44) hx hb hts hinX9 hown hK hG (ga_50 g _) rfl 8 (by decide) hw0 rfl rfl dX9_third_32 ?_
      refine lv_i2l hx hb dX9_third_35 rfl ?_
      obtain ⟨z7, hc8, h⟩ := bnd_some h
      refine gx_cS (σ' := (mkS σ [] [(3224, (σ.2.1 3224))] [] [(65, (σ.2.2.2 65)), (66, (σ.2.2.2 66))])) (r := (some (.int z7))) (rest := []) (As := [.long (x3.toInt64), .long (0 : Int64), .long ((σ.1 3208).toInt64)]) hS9 (c_M_in l g (mkS σ [] [(3224, (σ.2.1 3224))] [] [(65, (σ.2.2.2 65)), (66, (σ.2.2.2 66))]) (x3.toInt64) (0 : Int64) ((σ.1 3208).toInt64) z7 hc8) rfl (va_cwS 3 hts gX9_third_X9_in rfl rfl rfl (by decide +kernel) ⟨Nat.le_of_ble_eq_true rfl, Nat.le_of_ble_eq_true rfl⟩) hK hG rfl hl.1 rfl (Nat.le_of_ble_eq_true rfl) dX9_third_36 (fun H locs hG => ?_)
      refine W.eq (g2 := F0 m 39 ls [.int z7]) rfl ?_
      refine lv_if_ne (tgt := 44) hx hb dX9_third_39 (by decide) (fun c9 => ?_) (fun c9 => ?_)
      · have h := ite_f c9 h
        refine lv_aload_n hx hb dX9_third_44 rfl (lv_at hl 0 rfl) ?_
        obtain ⟨z10, hc11, h⟩ := bnd_some h
        refine gx_cV (σ' := (mkS σ [] [(3224, z10.2.1)] [] [(65, z10.2.2.1), (66, z10.2.2.2)])) (r := (some (.int z10.1))) (rest := []) (As := []) hS9 (c_M_laws l g (mkS σ [] [(3224, (σ.2.1 3224))] [] [(65, (σ.2.2.2 65)), (66, (σ.2.2.2 66))]) z10.1 z10.2.1 z10.2.2.1 z10.2.2.2 hc11) (mk_mk rfl rfl rfl rfl) (cwV 0 hts gX9_third_X9_laws rfl rfl rfl (by decide +kernel) ⟨Nat.le_of_ble_eq_true rfl, Nat.le_of_ble_eq_true rfl⟩) hK hG (ga_50 g _) rfl rfl rfl hl.1 rfl (Nat.le_of_ble_eq_true rfl) dX9_third_45 (fun H locs hG => ?_)
        refine W.eq (g2 := F0 m 48 ls [.int z10.1]) rfl ?_
        refine lv_if_le (tgt := 56) hx hb dX9_third_48 (by decide) (fun c12 => ?_) (fun c12 => ?_)
        · have h := ite_t c12 h
          refine lv_aload_n hx hb dX9_third_56 rfl (lv_at hl 0 rfl) ?_
          refine gx_get (v := .ref (g.2.1 66)) (C := RX9) (T := TX9) (N := 44) hx hb hts hinX9 hown hK hG (ga_50 g _) rfl 25 (by decide) hw1 rfl rfl dX9_third_57 ?_
          refine lv_bipush (v := (36 : Int32)) hx hb dX9_third_60 (by decide) ?_
          refine lv_iload_n hx hb dX9_third_62 rfl (lv_at hl 1 rfl) ?_
          refine lv_imul hx hb dX9_third_63 ?_
          refine lv_bipush (v := (6 : Int32)) hx hb dX9_third_64 (by decide) ?_
          refine lv_iload_n hx hb dX9_third_66 rfl (lv_at hl 2 rfl) ?_
          refine lv_imul hx hb dX9_third_67 ?_
          refine lv_iadd hx hb dX9_third_68 ?_
          refine lv_iload_n hx hb dX9_third_69 rfl (lv_at hl 3 rfl) ?_
          refine lv_iadd hx hb dX9_third_70 ?_
          obtain ⟨hg13, h⟩ := gd_some h
          refine gx_lald (f := z10.2.2.2) hx hb hK hG (ga_66 g _) hg13 dX9_third_71 ?_
          refine lv_l2i hx hb dX9_third_72 rfl ?_
          exact n73 ((z10.2.2.2 (((((36 : Int32) * x1) + ((6 : Int32) * x2)) + x3).toNatClampNeg)).toInt32) z10.2.1 z10.2.2.1 z10.2.2.2 _ _ _ (lv_sub hl [] rfl) hG h
        · have h := ite_f c12 h
          refine lv_bipush (v := (-6 : Int32)) hx hb dX9_third_51 (by decide) ?_
          refine lv_goto (tgt := 73) hx hb dX9_third_53 (by decide) ?_
          exact n73 (-6 : Int32) z10.2.1 z10.2.2.1 z10.2.2.2 _ _ _ (lv_sub hl [] rfl) hG h
      · have h := ite_t c9 h
        exact n42 (σ.2.1 3224) (σ.2.2.2 65) (σ.2.2.2 66) _ _ _ (lv_sub hl [] rfl) hG h

set_option maxHeartbeats 4000000 in
set_option maxRecDepth 100000 in
theorem c_M_thirds (l : Launch) (g : GC) (σ : St) (x1 : Int32) (x2 : Int32) (x3 : Int32) (x4 : Int32) (r : Int32) (w_far : Int32) (w_heaps : Int32) (w_isMeasured : Int32) (w_wayOf : Nat → Int32) (h : M_thirds x1 x2 x3 x4 (σ.1 3214) (σ.1 3215) (σ.1 3212) (σ.1 3203) (σ.2.2.1 54) (σ.2.2.1 59) = some (r, w_far, w_heaps, w_isMeasured, w_wayOf)) : Cn l g yX9_thirds wsX9_thirds 2 47 [.ref (g.2.1 50), .int x1, .int x2, .int x3, .int x4] σ (some (.int r)) (mkS σ [(3214, w_far), (3215, w_heaps), (3212, w_isMeasured)] [] [(59, w_wayOf)] []) := by
  unfold Cn
  refine Met.ofW (cc := cX9_thirds) (maxL := 8) (ret := (some .int)) (by decide) rfl ?_
  intro p e s m args below meth c s₁ B hml hv
  obtain ⟨hargs, hP0, hK⟩ := hv
  have hx := B.exec
  have hb := B.bytes
  have hr := B.returns
  have hts := atoms_spec (ws := wsX9_thirds) B.pre
  have hown : s.vm.findClass RX9 = some m.cls := findClass_of_methodNamed B.named
  have hlocks := B.notSynchronized
  have hS9 : CallFix p m c cX9_thirds 8 s args wsX9_thirds RX9 := ⟨hx, hb, hml, hown, hts⟩
  have hinX9 : ∀ w ∈ wsX90, w ∈ wsX9_thirds := fun w h => List.mem_cons_of_mem _ (List.mem_append_right _ (h))
  have hw0 := hts (.fieldLink RX9 39 "LikeNetsModel" "wayOf" "[I") (List.mem_of_getElem? (i := 2) rfl)
  have hw1 := hts (.fieldLink RX9 116 "LikeNetsModel" "posts" "I") (List.mem_of_getElem? (i := 1) rfl)
  have hf9 : entryFrame m args 8 = _ := (congrArg (fun a => entryFrame m a 8) hargs).trans (lg_entry_eq m [.ref (g.2.1 50), .int x1, .int x2, .int x3, .int x4] 8)
  show Wg p l e 2 47 s m args below meth c g (some (.int r)) (mkS σ [(3214, w_far), (3215, w_heaps), (3212, w_isMeasured)] [] [(59, w_wayOf)] []) s.heap [] (entryFrame m args 8)
  rw [hf9]
  have hl := lv_entry ([.ref (g.2.1 50), .int x1, .int x2, .int x3, .int x4]) (n := 8) (Nat.le_of_ble_eq_true rfl)
  generalize (lg_sl ([.ref (g.2.1 50), .int x1, .int x2, .int x3, .int x4]) ++ List.replicate (8 - (lg_sl ([.ref (g.2.1 50), .int x1, .int x2, .int x3, .int x4])).length) Slot.unset).toArray = ls at hl ⊢
  have hl : lv_has ls 8 [(0, .ref (g.2.1 50)), (1, .int x1), (2, .int x2), (3, .int x3), (4, .int x4)] := hl
  have hG : GW g s σ s.heap [] := ⟨hP0, va_S.rf⟩
  have hG : GW g s (mkS σ [(3214, (σ.1 3214)), (3215, (σ.1 3215)), (3212, (σ.1 3212))] [] [(59, (σ.2.2.1 59))] []) s.heap [] := GW_self [3214, 3215, 3212] [] [59] [] hG
  unfold M_thirds at h
  have n25 : ∀ (v_far : Int32) (v_heaps : Int32) (v_isMeasured : Int32) (v_wayOf : Nat → Int32) (H : Heap) (locs : List Loc) (ls : Array Slot), lv_has ls 8 [] → GW g s (mkS σ [(3214, v_far), (3215, v_heaps), (3212, v_isMeasured)] [] [(59, v_wayOf)] []) H locs → M_thirds_n25 v_far v_heaps v_isMeasured v_wayOf = some (r, w_far, w_heaps, w_isMeasured, w_wayOf) → Wg p l e 2 47 s m args below meth c g (some (.int r)) (mkS σ [(3214, w_far), (3215, w_heaps), (3212, w_isMeasured)] [] [(59, w_wayOf)] []) H locs (F0 m 25 ls []) := by
    intro v_far v_heaps v_isMeasured v_wayOf H locs ls hl hG h
    unfold M_thirds_n25 at h
    refine lv_iconst (v := (-1 : Int32)) hx hb dX9_thirds_25 (by decide) ?_
    cases h
    exact gx_iret hx hb hr hlocks hG dX9_thirds_26
  have n132 : ∀ (k37 : Int32 → Int32 → Int32 → Int32 → Int32 → Int32 → Int32 → Int32 → Int32 → (Nat → Int32) → Option (Int32 × Int32 × Int32 × Int32 × (Nat → Int32))) (hk37 : ∀ (x1 : Int32) (x2 : Int32) (x3 : Int32) (x4 : Int32) (x5 : Int32) (x6 : Int32) (v_far : Int32) (v_heaps : Int32) (v_isMeasured : Int32) (v_wayOf : Nat → Int32) (H : Heap) (locs : List Loc) (ls : Array Slot), lv_has ls 8 [(0, .ref (g.2.1 50)), (1, .int x1), (2, .int x2), (3, .int x3), (4, .int x4), (5, .int x5), (6, .int x6)] → GW g s (mkS σ [(3214, v_far), (3215, v_heaps), (3212, v_isMeasured)] [] [(59, v_wayOf)] []) H locs → k37 x1 x2 x3 x4 x5 x6 v_far v_heaps v_isMeasured v_wayOf = some (r, w_far, w_heaps, w_isMeasured, w_wayOf) → Wg p l e 2 47 s m args below meth c g (some (.int r)) (mkS σ [(3214, w_far), (3215, w_heaps), (3212, w_isMeasured)] [] [(59, w_wayOf)] []) H locs (F0 m 37 ls [])) (x1 : Int32) (x2 : Int32) (x3 : Int32) (x4 : Int32) (x6 : Int32) (t0 : Int32) (t1 : Int32) (v_far : Int32) (v_heaps : Int32) (v_isMeasured : Int32) (v_wayOf : Nat → Int32) (H : Heap) (locs : List Loc) (ls : Array Slot), lv_has ls 8 [(0, .ref (g.2.1 50)), (1, .int x1), (2, .int x2), (3, .int x3), (4, .int x4), (6, .int x6)] → GW g s (mkS σ [(3214, v_far), (3215, v_heaps), (3212, v_isMeasured)] [] [(59, v_wayOf)] []) H locs → M_thirds_n132 k37 x1 x2 x3 x4 x6 t0 t1 v_far v_heaps v_isMeasured v_wayOf = some (r, w_far, w_heaps, w_isMeasured, w_wayOf) → Wg p l e 2 47 s m args below meth c g (some (.int r)) (mkS σ [(3214, w_far), (3215, w_heaps), (3212, w_isMeasured)] [] [(59, w_wayOf)] []) H locs (F0 m 132 ls [.int t1, .int t0]) := by
    intro k37 hk37 x1 x2 x3 x4 x6 t0 t1 v_far v_heaps v_isMeasured v_wayOf H locs ls hl hG h
    unfold M_thirds_n132 at h
    refine lv_iadd hx hb dX9_thirds_132 ?_
    refine lv_istore (lv' := [(5, .int (t0 + t1)), (0, .ref (g.2.1 50)), (1, .int x1), (2, .int x2), (3, .int x3), (4, .int x4), (6, .int x6)]) hx hb dX9_thirds_133 hl (Nat.le_of_ble_eq_true rfl) rfl (fun ls hl => ?_)
    refine lv_iinc (v := (x6 + (1 : Int32))) (lv' := [(6, .int (x6 + (1 : Int32))), (5, .int (t0 + t1)), (0, .ref (g.2.1 50)), (1, .int x1), (2, .int x2), (3, .int x3), (4, .int x4)]) hx hb dX9_thirds_135 hl (k := 6) rfl (congrArg (fun z => x6 + z) (by decide)) (Nat.le_of_ble_eq_true rfl) rfl (fun ls hl => ?_)
    refine lv_goto (tgt := 37) hx hb dX9_thirds_138 (by decide) ?_
    exact hk37 x1 x2 x3 x4 (t0 + t1) (x6 + (1 : Int32)) v_far v_heaps v_isMeasured v_wayOf _ _ _ (lv_sub hl [2, 3, 4, 5, 6, 1, 0] rfl) hG h
  have n131 : ∀ (k37 : Int32 → Int32 → Int32 → Int32 → Int32 → Int32 → Int32 → Int32 → Int32 → (Nat → Int32) → Option (Int32 × Int32 × Int32 × Int32 × (Nat → Int32))) (hk37 : ∀ (x1 : Int32) (x2 : Int32) (x3 : Int32) (x4 : Int32) (x5 : Int32) (x6 : Int32) (v_far : Int32) (v_heaps : Int32) (v_isMeasured : Int32) (v_wayOf : Nat → Int32) (H : Heap) (locs : List Loc) (ls : Array Slot), lv_has ls 8 [(0, .ref (g.2.1 50)), (1, .int x1), (2, .int x2), (3, .int x3), (4, .int x4), (5, .int x5), (6, .int x6)] → GW g s (mkS σ [(3214, v_far), (3215, v_heaps), (3212, v_isMeasured)] [] [(59, v_wayOf)] []) H locs → k37 x1 x2 x3 x4 x5 x6 v_far v_heaps v_isMeasured v_wayOf = some (r, w_far, w_heaps, w_isMeasured, w_wayOf) → Wg p l e 2 47 s m args below meth c g (some (.int r)) (mkS σ [(3214, w_far), (3215, w_heaps), (3212, w_isMeasured)] [] [(59, w_wayOf)] []) H locs (F0 m 37 ls [])) (x1 : Int32) (x2 : Int32) (x3 : Int32) (x4 : Int32) (x6 : Int32) (t0 : Int32) (v_far : Int32) (v_heaps : Int32) (v_isMeasured : Int32) (v_wayOf : Nat → Int32) (H : Heap) (locs : List Loc) (ls : Array Slot), lv_has ls 8 [(0, .ref (g.2.1 50)), (1, .int x1), (2, .int x2), (3, .int x3), (4, .int x4), (6, .int x6)] → GW g s (mkS σ [(3214, v_far), (3215, v_heaps), (3212, v_isMeasured)] [] [(59, v_wayOf)] []) H locs → M_thirds_n131 k37 x1 x2 x3 x4 x6 t0 v_far v_heaps v_isMeasured v_wayOf = some (r, w_far, w_heaps, w_isMeasured, w_wayOf) → Wg p l e 2 47 s m args below meth c g (some (.int r)) (mkS σ [(3214, w_far), (3215, w_heaps), (3212, w_isMeasured)] [] [(59, w_wayOf)] []) H locs (F0 m 131 ls [.int t0]) := by
    intro k37 hk37 x1 x2 x3 x4 x6 t0 v_far v_heaps v_isMeasured v_wayOf H locs ls hl hG h
    unfold M_thirds_n131 at h
    refine lv_iconst (v := (0 : Int32)) hx hb dX9_thirds_131 (by decide) ?_
    exact n132 k37 hk37 x1 x2 x3 x4 x6 t0 (0 : Int32) v_far v_heaps v_isMeasured v_wayOf _ _ _ (lv_sub hl [0, 1, 2, 3, 4, 5] rfl) hG h
  have n85 : ∀ (k37 : Int32 → Int32 → Int32 → Int32 → Int32 → Int32 → Int32 → Int32 → Int32 → (Nat → Int32) → Option (Int32 × Int32 × Int32 × Int32 × (Nat → Int32))) (hk37 : ∀ (x1 : Int32) (x2 : Int32) (x3 : Int32) (x4 : Int32) (x5 : Int32) (x6 : Int32) (v_far : Int32) (v_heaps : Int32) (v_isMeasured : Int32) (v_wayOf : Nat → Int32) (H : Heap) (locs : List Loc) (ls : Array Slot), lv_has ls 8 [(0, .ref (g.2.1 50)), (1, .int x1), (2, .int x2), (3, .int x3), (4, .int x4), (5, .int x5), (6, .int x6)] → GW g s (mkS σ [(3214, v_far), (3215, v_heaps), (3212, v_isMeasured)] [] [(59, v_wayOf)] []) H locs → k37 x1 x2 x3 x4 x5 x6 v_far v_heaps v_isMeasured v_wayOf = some (r, w_far, w_heaps, w_isMeasured, w_wayOf) → Wg p l e 2 47 s m args below meth c g (some (.int r)) (mkS σ [(3214, w_far), (3215, w_heaps), (3212, w_isMeasured)] [] [(59, w_wayOf)] []) H locs (F0 m 37 ls [])) (x1 : Int32) (x2 : Int32) (x3 : Int32) (x4 : Int32) (x5 : Int32) (x6 : Int32) (t0 : Int32) (v_far : Int32) (v_heaps : Int32) (v_isMeasured : Int32) (v_wayOf : Nat → Int32) (H : Heap) (locs : List Loc) (ls : Array Slot), lv_has ls 8 [(0, .ref (g.2.1 50)), (1, .int x1), (2, .int x2), (3, .int x3), (4, .int x4), (5, .int x5), (6, .int x6)] → GW g s (mkS σ [(3214, v_far), (3215, v_heaps), (3212, v_isMeasured)] [] [(59, v_wayOf)] []) H locs → M_thirds_n85 k37 x1 x2 x3 x4 x5 x6 t0 v_far v_heaps v_isMeasured v_wayOf = some (r, w_far, w_heaps, w_isMeasured, w_wayOf) → Wg p l e 2 47 s m args below meth c g (some (.int r)) (mkS σ [(3214, w_far), (3215, w_heaps), (3212, w_isMeasured)] [] [(59, w_wayOf)] []) H locs (F0 m 85 ls [.int t0]) := by
    intro k37 hk37 x1 x2 x3 x4 x5 x6 t0 v_far v_heaps v_isMeasured v_wayOf H locs ls hl hG h
    unfold M_thirds_n85 at h
    refine lv_istore (lv' := [(7, .int t0), (0, .ref (g.2.1 50)), (1, .int x1), (2, .int x2), (3, .int x3), (4, .int x4), (5, .int x5), (6, .int x6)]) hx hb dX9_thirds_85 hl (Nat.le_of_ble_eq_true rfl) rfl (fun ls hl => ?_)
    refine lv_iload hx hb dX9_thirds_87 (lv_at hl 6 rfl) ?_
    refine lv_iload hx hb dX9_thirds_89 (lv_at hl 0 rfl) ?_
    refine lv_if_eq (tgt := 131) hx hb dX9_thirds_91 (by decide) (fun c1 => ?_) (fun c1 => ?_)
    · have h := ite_t c1 h
      exact n131 k37 hk37 x1 x2 x3 x4 x6 x5 v_far v_heaps v_isMeasured v_wayOf _ _ _ (lv_sub hl [1, 2, 3, 4, 5, 7] rfl) hG h
    · have h := ite_f c1 h
      refine lv_aload_n hx hb dX9_thirds_94 rfl (lv_at hl 1 rfl) ?_
      refine gx_get (v := .ref (g.2.1 59)) (C := RX9) (T := TX9) (N := 44) hx hb hts hinX9 hown hK hG (ga_50 g _) rfl 13 (by decide) hw0 rfl rfl dX9_thirds_95 ?_
      refine lv_bipush (v := (32 : Int32)) hx hb dX9_thirds_98 (by decide) ?_
      refine lv_iload_n hx hb dX9_thirds_100 rfl (lv_at hl 2 rfl) ?_
      refine lv_imul hx hb dX9_thirds_101 ?_
      refine lv_iload hx hb dX9_thirds_102 (lv_at hl 7 rfl) ?_
      refine lv_iadd hx hb dX9_thirds_104 ?_
      obtain ⟨hg2, h⟩ := gd_some h
      refine gx_iald (f := v_wayOf) hx hb hK hG (ga_59 g _) hg2 dX9_thirds_105 ?_
      refine lv_iload_n hx hb dX9_thirds_106 rfl (lv_at hl 4 rfl) ?_
      refine lv_icmp_ne (tgt := 131) hx hb dX9_thirds_107 (by decide) (fun c3 => ?_) (fun c3 => ?_)
      · have h := ite_f c3 h
        exact n131 k37 hk37 x1 x2 x3 x4 x6 x5 v_far v_heaps v_isMeasured v_wayOf _ _ _ (lv_sub hl [1, 2, 3, 4, 5, 7] rfl) hG h
      · have h := ite_t c3 h
        refine lv_aload_n hx hb dX9_thirds_110 rfl (lv_at hl 1 rfl) ?_
        refine gx_get (v := .ref (g.2.1 59)) (C := RX9) (T := TX9) (N := 44) hx hb hts hinX9 hown hK hG (ga_50 g _) rfl 13 (by decide) hw0 rfl rfl dX9_thirds_111 ?_
        refine lv_bipush (v := (32 : Int32)) hx hb dX9_thirds_114 (by decide) ?_
        refine lv_iload_n hx hb dX9_thirds_116 rfl (lv_at hl 3 rfl) ?_
        refine lv_imul hx hb dX9_thirds_117 ?_
        refine lv_iload hx hb dX9_thirds_118 (lv_at hl 7 rfl) ?_
        refine lv_iadd hx hb dX9_thirds_120 ?_
        obtain ⟨hg4, h⟩ := gd_some h
        refine gx_iald (f := v_wayOf) hx hb hK hG (ga_59 g _) hg4 dX9_thirds_121 ?_
        refine lv_iload hx hb dX9_thirds_122 (lv_at hl 5 rfl) ?_
        refine lv_icmp_ne (tgt := 131) hx hb dX9_thirds_124 (by decide) (fun c5 => ?_) (fun c5 => ?_)
        · have h := ite_f c5 h
          exact n131 k37 hk37 x1 x2 x3 x4 x6 x5 v_far v_heaps v_isMeasured v_wayOf _ _ _ (lv_sub hl [1, 2, 3, 4, 5, 7] rfl) hG h
        · have h := ite_t c5 h
          refine lv_iconst (v := (1 : Int32)) hx hb dX9_thirds_127 (by decide) ?_
          refine lv_goto (tgt := 132) hx hb dX9_thirds_128 (by decide) ?_
          exact n132 k37 hk37 x1 x2 x3 x4 x6 x5 (1 : Int32) v_far v_heaps v_isMeasured v_wayOf _ _ _ (lv_sub hl [1, 2, 3, 4, 5, 7] rfl) hG h
  have n84 : ∀ (k37 : Int32 → Int32 → Int32 → Int32 → Int32 → Int32 → Int32 → Int32 → Int32 → (Nat → Int32) → Option (Int32 × Int32 × Int32 × Int32 × (Nat → Int32))) (hk37 : ∀ (x1 : Int32) (x2 : Int32) (x3 : Int32) (x4 : Int32) (x5 : Int32) (x6 : Int32) (v_far : Int32) (v_heaps : Int32) (v_isMeasured : Int32) (v_wayOf : Nat → Int32) (H : Heap) (locs : List Loc) (ls : Array Slot), lv_has ls 8 [(0, .ref (g.2.1 50)), (1, .int x1), (2, .int x2), (3, .int x3), (4, .int x4), (5, .int x5), (6, .int x6)] → GW g s (mkS σ [(3214, v_far), (3215, v_heaps), (3212, v_isMeasured)] [] [(59, v_wayOf)] []) H locs → k37 x1 x2 x3 x4 x5 x6 v_far v_heaps v_isMeasured v_wayOf = some (r, w_far, w_heaps, w_isMeasured, w_wayOf) → Wg p l e 2 47 s m args below meth c g (some (.int r)) (mkS σ [(3214, w_far), (3215, w_heaps), (3212, w_isMeasured)] [] [(59, w_wayOf)] []) H locs (F0 m 37 ls [])) (x1 : Int32) (x2 : Int32) (x3 : Int32) (x4 : Int32) (x5 : Int32) (x6 : Int32) (v_far : Int32) (v_heaps : Int32) (v_isMeasured : Int32) (v_wayOf : Nat → Int32) (H : Heap) (locs : List Loc) (ls : Array Slot), lv_has ls 8 [(0, .ref (g.2.1 50)), (1, .int x1), (2, .int x2), (3, .int x3), (4, .int x4), (5, .int x5), (6, .int x6)] → GW g s (mkS σ [(3214, v_far), (3215, v_heaps), (3212, v_isMeasured)] [] [(59, v_wayOf)] []) H locs → M_thirds_n84 k37 x1 x2 x3 x4 x5 x6 v_far v_heaps v_isMeasured v_wayOf = some (r, w_far, w_heaps, w_isMeasured, w_wayOf) → Wg p l e 2 47 s m args below meth c g (some (.int r)) (mkS σ [(3214, w_far), (3215, w_heaps), (3212, w_isMeasured)] [] [(59, w_wayOf)] []) H locs (F0 m 84 ls []) := by
    intro k37 hk37 x1 x2 x3 x4 x5 x6 v_far v_heaps v_isMeasured v_wayOf H locs ls hl hG h
    unfold M_thirds_n84 at h
    refine lv_iconst (v := (0 : Int32)) hx hb dX9_thirds_84 (by decide) ?_
    exact n85 k37 hk37 x1 x2 x3 x4 x5 x6 (0 : Int32) v_far v_heaps v_isMeasured v_wayOf _ _ _ (lv_sub hl [0, 1, 2, 3, 4, 5, 6] rfl) hG h
  have n141 : ∀ (x5 : Int32) (v_far : Int32) (v_heaps : Int32) (v_isMeasured : Int32) (v_wayOf : Nat → Int32) (H : Heap) (locs : List Loc) (ls : Array Slot), lv_has ls 8 [(5, .int x5)] → GW g s (mkS σ [(3214, v_far), (3215, v_heaps), (3212, v_isMeasured)] [] [(59, v_wayOf)] []) H locs → M_thirds_n141 x5 v_far v_heaps v_isMeasured v_wayOf = some (r, w_far, w_heaps, w_isMeasured, w_wayOf) → Wg p l e 2 47 s m args below meth c g (some (.int r)) (mkS σ [(3214, w_far), (3215, w_heaps), (3212, w_isMeasured)] [] [(59, w_wayOf)] []) H locs (F0 m 141 ls []) := by
    intro x5 v_far v_heaps v_isMeasured v_wayOf H locs ls hl hG h
    unfold M_thirds_n141 at h
    refine lv_iload hx hb dX9_thirds_141 (lv_at hl 0 rfl) ?_
    cases h
    exact gx_iret hx hb hr hlocks hG dX9_thirds_143
  have n37 : ∀ (k37 : Int32 → Int32 → Int32 → Int32 → Int32 → Int32 → Int32 → Int32 → Int32 → (Nat → Int32) → Option (Int32 × Int32 × Int32 × Int32 × (Nat → Int32))) (hk37 : ∀ (x1 : Int32) (x2 : Int32) (x3 : Int32) (x4 : Int32) (x5 : Int32) (x6 : Int32) (v_far : Int32) (v_heaps : Int32) (v_isMeasured : Int32) (v_wayOf : Nat → Int32) (H : Heap) (locs : List Loc) (ls : Array Slot), lv_has ls 8 [(0, .ref (g.2.1 50)), (1, .int x1), (2, .int x2), (3, .int x3), (4, .int x4), (5, .int x5), (6, .int x6)] → GW g s (mkS σ [(3214, v_far), (3215, v_heaps), (3212, v_isMeasured)] [] [(59, v_wayOf)] []) H locs → k37 x1 x2 x3 x4 x5 x6 v_far v_heaps v_isMeasured v_wayOf = some (r, w_far, w_heaps, w_isMeasured, w_wayOf) → Wg p l e 2 47 s m args below meth c g (some (.int r)) (mkS σ [(3214, w_far), (3215, w_heaps), (3212, w_isMeasured)] [] [(59, w_wayOf)] []) H locs (F0 m 37 ls [])) (x1 : Int32) (x2 : Int32) (x3 : Int32) (x4 : Int32) (x5 : Int32) (x6 : Int32) (v_far : Int32) (v_heaps : Int32) (v_isMeasured : Int32) (v_wayOf : Nat → Int32) (H : Heap) (locs : List Loc) (ls : Array Slot), lv_has ls 8 [(0, .ref (g.2.1 50)), (1, .int x1), (2, .int x2), (3, .int x3), (4, .int x4), (5, .int x5), (6, .int x6)] → GW g s (mkS σ [(3214, v_far), (3215, v_heaps), (3212, v_isMeasured)] [] [(59, v_wayOf)] []) H locs → M_thirds_n37 k37 (σ.1 3203) x1 x2 x3 x4 x5 x6 v_far v_heaps v_isMeasured v_wayOf = some (r, w_far, w_heaps, w_isMeasured, w_wayOf) → Wg p l e 2 47 s m args below meth c g (some (.int r)) (mkS σ [(3214, w_far), (3215, w_heaps), (3212, w_isMeasured)] [] [(59, w_wayOf)] []) H locs (F0 m 37 ls []) := by
    intro k37 hk37 x1 x2 x3 x4 x5 x6 v_far v_heaps v_isMeasured v_wayOf H locs ls hl hG h
    unfold M_thirds_n37 at h
    refine lv_iload hx hb dX9_thirds_37 (lv_at hl 6 rfl) ?_
    refine lv_aload_n hx hb dX9_thirds_39 rfl (lv_at hl 0 rfl) ?_
    refine gx_get (v := .int (σ.1 3203)) (C := RX9) (T := TX9) (N := 44) hx hb hts hinX9 hown hK hG (ga_50 g _) rfl 3 (by decide) hw1 rfl rfl dX9_thirds_40 ?_
    refine lv_icmp_ge (tgt := 141) hx hb dX9_thirds_43 (by decide) (fun c6 => ?_) (fun c6 => ?_)
    · have h := ite_t c6 h
      exact n141 x5 v_far v_heaps v_isMeasured v_wayOf _ _ _ (lv_sub hl [5] rfl) hG h
    · have h := ite_f c6 h
      refine lv_aload_n hx hb dX9_thirds_46 rfl (lv_at hl 0 rfl) ?_
      refine gx_get (v := .ref (g.2.1 59)) (C := RX9) (T := TX9) (N := 44) hx hb hts hinX9 hown hK hG (ga_50 g _) rfl 13 (by decide) hw0 rfl rfl dX9_thirds_47 ?_
      refine lv_bipush (v := (32 : Int32)) hx hb dX9_thirds_50 (by decide) ?_
      refine lv_iload_n hx hb dX9_thirds_52 rfl (lv_at hl 1 rfl) ?_
      refine lv_imul hx hb dX9_thirds_53 ?_
      refine lv_iload hx hb dX9_thirds_54 (lv_at hl 6 rfl) ?_
      refine lv_iadd hx hb dX9_thirds_56 ?_
      obtain ⟨hg7, h⟩ := gd_some h
      refine gx_iald (f := v_wayOf) hx hb hK hG (ga_59 g _) hg7 dX9_thirds_57 ?_
      refine lv_bipush (v := (99 : Int32)) hx hb dX9_thirds_58 (by decide) ?_
      refine lv_icmp_eq (tgt := 84) hx hb dX9_thirds_60 (by decide) (fun c8 => ?_) (fun c8 => ?_)
      · have h := ite_t c8 h
        exact n84 k37 hk37 x1 x2 x3 x4 x5 x6 v_far v_heaps v_isMeasured v_wayOf _ _ _ (lv_sub hl [0, 1, 2, 3, 4, 5, 6] rfl) hG h
      · have h := ite_f c8 h
        refine lv_aload_n hx hb dX9_thirds_63 rfl (lv_at hl 0 rfl) ?_
        refine gx_get (v := .ref (g.2.1 59)) (C := RX9) (T := TX9) (N := 44) hx hb hts hinX9 hown hK hG (ga_50 g _) rfl 13 (by decide) hw0 rfl rfl dX9_thirds_64 ?_
        refine lv_bipush (v := (32 : Int32)) hx hb dX9_thirds_67 (by decide) ?_
        refine lv_iload_n hx hb dX9_thirds_69 rfl (lv_at hl 2 rfl) ?_
        refine lv_imul hx hb dX9_thirds_70 ?_
        refine lv_iload hx hb dX9_thirds_71 (lv_at hl 6 rfl) ?_
        refine lv_iadd hx hb dX9_thirds_73 ?_
        obtain ⟨hg9, h⟩ := gd_some h
        refine gx_iald (f := v_wayOf) hx hb hK hG (ga_59 g _) hg9 dX9_thirds_74 ?_
        refine lv_bipush (v := (99 : Int32)) hx hb dX9_thirds_75 (by decide) ?_
        refine lv_icmp_eq (tgt := 84) hx hb dX9_thirds_77 (by decide) (fun c10 => ?_) (fun c10 => ?_)
        · have h := ite_t c10 h
          exact n84 k37 hk37 x1 x2 x3 x4 x5 x6 v_far v_heaps v_isMeasured v_wayOf _ _ _ (lv_sub hl [0, 1, 2, 3, 4, 5, 6] rfl) hG h
        · have h := ite_f c10 h
          refine lv_iconst (v := (1 : Int32)) hx hb dX9_thirds_80 (by decide) ?_
          refine lv_goto (tgt := 85) hx hb dX9_thirds_81 (by decide) ?_
          exact n85 k37 hk37 x1 x2 x3 x4 x5 x6 (1 : Int32) v_far v_heaps v_isMeasured v_wayOf _ _ _ (lv_sub hl [0, 1, 2, 3, 4, 5, 6] rfl) hG h
  have l37 : ∀  (F : Nat) (x1 : Int32) (x2 : Int32) (x3 : Int32) (x4 : Int32) (x5 : Int32) (x6 : Int32) (v_far : Int32) (v_heaps : Int32) (v_isMeasured : Int32) (v_wayOf : Nat → Int32) (H : Heap) (locs : List Loc) (ls : Array Slot), lv_has ls 8 [(0, .ref (g.2.1 50)), (1, .int x1), (2, .int x2), (3, .int x3), (4, .int x4), (5, .int x5), (6, .int x6)] → GW g s (mkS σ [(3214, v_far), (3215, v_heaps), (3212, v_isMeasured)] [] [(59, v_wayOf)] []) H locs → M_thirds_l37 (σ.1 3203) F x1 x2 x3 x4 x5 x6 v_far v_heaps v_isMeasured v_wayOf = some (r, w_far, w_heaps, w_isMeasured, w_wayOf) → Wg p l e 2 47 s m args below meth c g (some (.int r)) (mkS σ [(3214, w_far), (3215, w_heaps), (3212, w_isMeasured)] [] [(59, w_wayOf)] []) H locs (F0 m 37 ls []) := by
    intro F
    induction F with
    | zero => intro x1 x2 x3 x4 x5 x6 v_far v_heaps v_isMeasured v_wayOf H locs ls hl hG h; exact no_some h
    | succ F ih => intro x1 x2 x3 x4 x5 x6 v_far v_heaps v_isMeasured v_wayOf H locs ls hl hG h; exact n37 (fun x1 x2 x3 x4 x5 x6 v_far v_heaps v_isMeasured v_wayOf => M_thirds_l37 (σ.1 3203) F x1 x2 x3 x4 x5 x6 v_far v_heaps v_isMeasured v_wayOf) ih x1 x2 x3 x4 x5 x6 v_far v_heaps v_isMeasured v_wayOf H locs ls hl hG h
  refine lv_aload_n hx hb dX9_thirds_0 rfl (lv_at hl 0 rfl) ?_
  refine lv_iload_n hx hb dX9_thirds_1 rfl (lv_at hl 1 rfl) ?_
  obtain ⟨z11, hc12, h⟩ := bnd_some h
  refine gx_cV (σ' := (mkS σ [(3214, (σ.1 3214)), (3215, (σ.1 3215)), (3212, (σ.1 3212))] [] [(59, (σ.2.2.1 59))] [])) (r := (some (.int z11))) (rest := []) (As := [.int x1]) hS9 (c_M_isPost l g (mkS σ [(3214, (σ.1 3214)), (3215, (σ.1 3215)), (3212, (σ.1 3212))] [] [(59, (σ.2.2.1 59))] []) x1 z11 hc12) rfl (cwV 1 hts gX9_thirds_X9_isPost rfl rfl rfl (by decide +kernel) ⟨Nat.le_of_ble_eq_true rfl, Nat.le_of_ble_eq_true rfl⟩) hK hG (ga_50 g _) rfl rfl rfl hl.1 rfl (Nat.le_of_ble_eq_true rfl) dX9_thirds_2 (fun H locs hG => ?_)
  refine W.eq (g2 := F0 m 5 ls [.int z11]) rfl ?_
  refine lv_if_eq (tgt := 25) hx hb dX9_thirds_5 (by decide) (fun c13 => ?_) (fun c13 => ?_)
  · have h := ite_t c13 h
    exact n25 (σ.1 3214) (σ.1 3215) (σ.1 3212) (σ.2.2.1 59) _ _ _ (lv_sub hl [] rfl) hG h
  · have h := ite_f c13 h
    refine lv_aload_n hx hb dX9_thirds_8 rfl (lv_at hl 0 rfl) ?_
    refine lv_iload_n hx hb dX9_thirds_9 rfl (lv_at hl 2 rfl) ?_
    obtain ⟨z14, hc15, h⟩ := bnd_some h
    refine gx_cV (σ' := (mkS σ [(3214, (σ.1 3214)), (3215, (σ.1 3215)), (3212, (σ.1 3212))] [] [(59, (σ.2.2.1 59))] [])) (r := (some (.int z14))) (rest := []) (As := [.int x2]) hS9 (c_M_isPost l g (mkS σ [(3214, (σ.1 3214)), (3215, (σ.1 3215)), (3212, (σ.1 3212))] [] [(59, (σ.2.2.1 59))] []) x2 z14 hc15) rfl (cwV 1 hts gX9_thirds_X9_isPost rfl rfl rfl (by decide +kernel) ⟨Nat.le_of_ble_eq_true rfl, Nat.le_of_ble_eq_true rfl⟩) hK hG (ga_50 g _) rfl rfl rfl hl.1 rfl (Nat.le_of_ble_eq_true rfl) dX9_thirds_10 (fun H locs hG => ?_)
    refine W.eq (g2 := F0 m 13 ls [.int z14]) rfl ?_
    refine lv_if_eq (tgt := 25) hx hb dX9_thirds_13 (by decide) (fun c16 => ?_) (fun c16 => ?_)
    · have h := ite_t c16 h
      exact n25 (σ.1 3214) (σ.1 3215) (σ.1 3212) (σ.2.2.1 59) _ _ _ (lv_sub hl [] rfl) hG h
    · have h := ite_f c16 h
      refine lv_iload_n hx hb dX9_thirds_16 rfl (lv_at hl 3 rfl) ?_
      refine lv_if_lt (tgt := 25) hx hb dX9_thirds_17 (by decide) (fun c17 => ?_) (fun c17 => ?_)
      · have h := ite_t c17 h
        exact n25 (σ.1 3214) (σ.1 3215) (σ.1 3212) (σ.2.2.1 59) _ _ _ (lv_sub hl [] rfl) hG h
      · have h := ite_f c17 h
        refine lv_iload hx hb dX9_thirds_20 (lv_at hl 4 rfl) ?_
        refine lv_if_ge (tgt := 27) hx hb dX9_thirds_22 (by decide) (fun c18 => ?_) (fun c18 => ?_)
        · have h := ite_t c18 h
          refine lv_aload_n hx hb dX9_thirds_27 rfl (lv_at hl 0 rfl) ?_
          obtain ⟨z19, hc20, h⟩ := bnd_some h
          refine gx_cV (σ' := (mkS σ [(3214, z19.1), (3215, z19.2.1), (3212, z19.2.2.1)] [] [(59, z19.2.2.2)] [])) (r := none) (rest := []) (As := []) hS9 (c_M_measure l g (mkS σ [(3214, (σ.1 3214)), (3215, (σ.1 3215)), (3212, (σ.1 3212))] [] [(59, (σ.2.2.1 59))] []) z19.1 z19.2.1 z19.2.2.1 z19.2.2.2 hc20) (mk_mk rfl rfl rfl rfl) (cwV 0 hts gX9_thirds_X9_measure rfl rfl rfl (by decide +kernel) ⟨Nat.le_of_ble_eq_true rfl, Nat.le_of_ble_eq_true rfl⟩) hK hG (ga_50 g _) rfl rfl rfl hl.1 rfl (Nat.le_of_ble_eq_true rfl) dX9_thirds_28 (fun H locs hG => ?_)
          refine W.eq (g2 := F0 m 31 ls []) rfl ?_
          refine lv_iconst (v := (0 : Int32)) hx hb dX9_thirds_31 (by decide) ?_
          refine lv_istore (lv' := [(5, .int (0 : Int32)), (0, .ref (g.2.1 50)), (1, .int x1), (2, .int x2), (3, .int x3), (4, .int x4)]) hx hb dX9_thirds_32 hl (Nat.le_of_ble_eq_true rfl) rfl (fun ls hl => ?_)
          refine lv_iconst (v := (0 : Int32)) hx hb dX9_thirds_34 (by decide) ?_
          refine lv_istore (lv' := [(6, .int (0 : Int32)), (5, .int (0 : Int32)), (0, .ref (g.2.1 50)), (1, .int x1), (2, .int x2), (3, .int x3), (4, .int x4)]) hx hb dX9_thirds_35 hl (Nat.le_of_ble_eq_true rfl) rfl (fun ls hl => ?_)
          exact l37 FUEL x1 x2 x3 x4 (0 : Int32) (0 : Int32) z19.1 z19.2.1 z19.2.2.1 z19.2.2.2 _ _ _ (lv_sub hl [2, 3, 4, 5, 6, 1, 0] rfl) hG h
        · have h := ite_f c18 h
          exact n25 (σ.1 3214) (σ.1 3215) (σ.1 3212) (σ.2.2.1 59) _ _ _ (lv_sub hl [] rfl) hG h

set_option maxHeartbeats 4000000 in
set_option maxRecDepth 100000 in
theorem c_M_twice (l : Launch) (g : GC) (σ : St) (r : Int32) (w_areKindsFound : Int32) (w_isMeasured : Int32) (w_posts : Int32) (w_newRoad : Nat → Int32) (w_road : Nat → Int32) (h : M_twice (σ.1 3238) (σ.1 3212) (σ.1 3203) (σ.2.2.1 70) (σ.2.2.1 54) = some (r, w_areKindsFound, w_isMeasured, w_posts, w_newRoad, w_road)) : Cn l g yX9_twice wsX9_twice 1 22 [.ref (g.2.1 50)] σ (some (.int r)) (mkS σ [(3238, w_areKindsFound), (3212, w_isMeasured), (3203, w_posts)] [] [(70, w_newRoad), (54, w_road)] []) := by
  unfold Cn
  refine Met.ofW (cc := cX9_twice) (maxL := 3) (ret := (some .int)) (by decide) rfl ?_
  intro p e s m args below meth c s₁ B hml hv
  obtain ⟨hargs, hP0, hK⟩ := hv
  have hx := B.exec
  have hb := B.bytes
  have hr := B.returns
  have hts := atoms_spec (ws := wsX9_twice) B.pre
  have hown : s.vm.findClass RX9 = some m.cls := findClass_of_methodNamed B.named
  have hlocks := B.notSynchronized
  have hS9 : CallFix p m c cX9_twice 3 s args wsX9_twice RX9 := ⟨hx, hb, hml, hown, hts⟩
  have hinX9 : ∀ w ∈ wsX90, w ∈ wsX9_twice := fun w h => List.mem_cons_of_mem _ (List.mem_append_right _ (h))
  have hw0 := hts (.fieldLink RX9 116 "LikeNetsModel" "posts" "I") (List.mem_of_getElem? (i := 1) rfl)
  have hw1 := hts (.fieldLink RX9 19 "LikeNetsModel" "road" "[Z") (List.mem_of_getElem? (i := 2) rfl)
  have hw2 := hts (.fieldLink RX9 73 "LikeNetsModel" "newRoad" "[Z") (List.mem_of_getElem? (i := 3) rfl)
  have hf9 : entryFrame m args 3 = _ := (congrArg (fun a => entryFrame m a 3) hargs).trans (lg_entry_eq m [.ref (g.2.1 50)] 3)
  show Wg p l e 1 22 s m args below meth c g (some (.int r)) (mkS σ [(3238, w_areKindsFound), (3212, w_isMeasured), (3203, w_posts)] [] [(70, w_newRoad), (54, w_road)] []) s.heap [] (entryFrame m args 3)
  rw [hf9]
  have hl := lv_entry ([.ref (g.2.1 50)]) (n := 3) (Nat.le_of_ble_eq_true rfl)
  generalize (lg_sl ([.ref (g.2.1 50)]) ++ List.replicate (3 - (lg_sl ([.ref (g.2.1 50)])).length) Slot.unset).toArray = ls at hl ⊢
  have hl : lv_has ls 3 [(0, .ref (g.2.1 50))] := hl
  have hG : GW g s σ s.heap [] := ⟨hP0, va_S.rf⟩
  have hG : GW g s (mkS σ [(3238, (σ.1 3238)), (3212, (σ.1 3212)), (3203, (σ.1 3203))] [] [(70, (σ.2.2.1 70)), (54, (σ.2.2.1 54))] []) s.heap [] := GW_self [3238, 3212, 3203] [] [70, 54] [] hG
  unfold M_twice at h
  have n86 : ∀ (k30 : Int32 → Int32 → Int32 → Int32 → Int32 → (Nat → Int32) → (Nat → Int32) → Option (Int32 × Int32 × Int32 × Int32 × (Nat → Int32) × (Nat → Int32))) (hk30 : ∀ (x1 : Int32) (x2 : Int32) (v_areKindsFound : Int32) (v_isMeasured : Int32) (v_posts : Int32) (v_newRoad : Nat → Int32) (v_road : Nat → Int32) (H : Heap) (locs : List Loc) (ls : Array Slot), lv_has ls 3 [(0, .ref (g.2.1 50)), (1, .int x1), (2, .int x2)] → GW g s (mkS σ [(3238, v_areKindsFound), (3212, v_isMeasured), (3203, v_posts)] [] [(70, v_newRoad), (54, v_road)] []) H locs → k30 x1 x2 v_areKindsFound v_isMeasured v_posts v_newRoad v_road = some (r, w_areKindsFound, w_isMeasured, w_posts, w_newRoad, w_road) → Wg p l e 1 22 s m args below meth c g (some (.int r)) (mkS σ [(3238, w_areKindsFound), (3212, w_isMeasured), (3203, w_posts)] [] [(70, w_newRoad), (54, w_road)] []) H locs (F0 m 30 ls [])) (x1 : Int32) (x2 : Int32) (v_areKindsFound : Int32) (v_isMeasured : Int32) (v_posts : Int32) (v_newRoad : Nat → Int32) (v_road : Nat → Int32) (H : Heap) (locs : List Loc) (ls : Array Slot), lv_has ls 3 [(0, .ref (g.2.1 50)), (1, .int x1), (2, .int x2)] → GW g s (mkS σ [(3238, v_areKindsFound), (3212, v_isMeasured), (3203, v_posts)] [] [(70, v_newRoad), (54, v_road)] []) H locs → M_twice_n86 k30 x1 x2 v_areKindsFound v_isMeasured v_posts v_newRoad v_road = some (r, w_areKindsFound, w_isMeasured, w_posts, w_newRoad, w_road) → Wg p l e 1 22 s m args below meth c g (some (.int r)) (mkS σ [(3238, w_areKindsFound), (3212, w_isMeasured), (3203, w_posts)] [] [(70, w_newRoad), (54, w_road)] []) H locs (F0 m 86 ls []) := by
    intro k30 hk30 x1 x2 v_areKindsFound v_isMeasured v_posts v_newRoad v_road H locs ls hl hG h
    unfold M_twice_n86 at h
    refine lv_iinc (v := (x2 + (1 : Int32))) (lv' := [(2, .int (x2 + (1 : Int32))), (0, .ref (g.2.1 50)), (1, .int x1)]) hx hb dX9_twice_86 hl (k := 2) rfl (congrArg (fun z => x2 + z) (by decide)) (Nat.le_of_ble_eq_true rfl) rfl (fun ls hl => ?_)
    refine lv_goto (tgt := 30) hx hb dX9_twice_89 (by decide) ?_
    exact hk30 x1 (x2 + (1 : Int32)) v_areKindsFound v_isMeasured v_posts v_newRoad v_road _ _ _ (lv_sub hl [1, 2, 0] rfl) hG h
  have n92 : ∀ (k20 : Int32 → Int32 → Int32 → Int32 → (Nat → Int32) → (Nat → Int32) → Option (Int32 × Int32 × Int32 × Int32 × (Nat → Int32) × (Nat → Int32))) (hk20 : ∀ (x1 : Int32) (v_areKindsFound : Int32) (v_isMeasured : Int32) (v_posts : Int32) (v_newRoad : Nat → Int32) (v_road : Nat → Int32) (H : Heap) (locs : List Loc) (ls : Array Slot), lv_has ls 3 [(0, .ref (g.2.1 50)), (1, .int x1)] → GW g s (mkS σ [(3238, v_areKindsFound), (3212, v_isMeasured), (3203, v_posts)] [] [(70, v_newRoad), (54, v_road)] []) H locs → k20 x1 v_areKindsFound v_isMeasured v_posts v_newRoad v_road = some (r, w_areKindsFound, w_isMeasured, w_posts, w_newRoad, w_road) → Wg p l e 1 22 s m args below meth c g (some (.int r)) (mkS σ [(3238, w_areKindsFound), (3212, w_isMeasured), (3203, w_posts)] [] [(70, w_newRoad), (54, w_road)] []) H locs (F0 m 20 ls [])) (x1 : Int32) (v_areKindsFound : Int32) (v_isMeasured : Int32) (v_posts : Int32) (v_newRoad : Nat → Int32) (v_road : Nat → Int32) (H : Heap) (locs : List Loc) (ls : Array Slot), lv_has ls 3 [(0, .ref (g.2.1 50)), (1, .int x1)] → GW g s (mkS σ [(3238, v_areKindsFound), (3212, v_isMeasured), (3203, v_posts)] [] [(70, v_newRoad), (54, v_road)] []) H locs → M_twice_n92 k20 x1 v_areKindsFound v_isMeasured v_posts v_newRoad v_road = some (r, w_areKindsFound, w_isMeasured, w_posts, w_newRoad, w_road) → Wg p l e 1 22 s m args below meth c g (some (.int r)) (mkS σ [(3238, w_areKindsFound), (3212, w_isMeasured), (3203, w_posts)] [] [(70, w_newRoad), (54, w_road)] []) H locs (F0 m 92 ls []) := by
    intro k20 hk20 x1 v_areKindsFound v_isMeasured v_posts v_newRoad v_road H locs ls hl hG h
    unfold M_twice_n92 at h
    refine lv_iinc (v := (x1 + (1 : Int32))) (lv' := [(1, .int (x1 + (1 : Int32))), (0, .ref (g.2.1 50))]) hx hb dX9_twice_92 hl (k := 1) rfl (congrArg (fun z => x1 + z) (by decide)) (Nat.le_of_ble_eq_true rfl) rfl (fun ls hl => ?_)
    refine lv_goto (tgt := 20) hx hb dX9_twice_95 (by decide) ?_
    exact hk20 (x1 + (1 : Int32)) v_areKindsFound v_isMeasured v_posts v_newRoad v_road _ _ _ (lv_sub hl [1, 0] rfl) hG h
  have n30 : ∀ (k20 : Int32 → Int32 → Int32 → Int32 → (Nat → Int32) → (Nat → Int32) → Option (Int32 × Int32 × Int32 × Int32 × (Nat → Int32) × (Nat → Int32))) (hk20 : ∀ (x1 : Int32) (v_areKindsFound : Int32) (v_isMeasured : Int32) (v_posts : Int32) (v_newRoad : Nat → Int32) (v_road : Nat → Int32) (H : Heap) (locs : List Loc) (ls : Array Slot), lv_has ls 3 [(0, .ref (g.2.1 50)), (1, .int x1)] → GW g s (mkS σ [(3238, v_areKindsFound), (3212, v_isMeasured), (3203, v_posts)] [] [(70, v_newRoad), (54, v_road)] []) H locs → k20 x1 v_areKindsFound v_isMeasured v_posts v_newRoad v_road = some (r, w_areKindsFound, w_isMeasured, w_posts, w_newRoad, w_road) → Wg p l e 1 22 s m args below meth c g (some (.int r)) (mkS σ [(3238, w_areKindsFound), (3212, w_isMeasured), (3203, w_posts)] [] [(70, w_newRoad), (54, w_road)] []) H locs (F0 m 20 ls [])) (k30 : Int32 → Int32 → Int32 → Int32 → Int32 → (Nat → Int32) → (Nat → Int32) → Option (Int32 × Int32 × Int32 × Int32 × (Nat → Int32) × (Nat → Int32))) (hk30 : ∀ (x1 : Int32) (x2 : Int32) (v_areKindsFound : Int32) (v_isMeasured : Int32) (v_posts : Int32) (v_newRoad : Nat → Int32) (v_road : Nat → Int32) (H : Heap) (locs : List Loc) (ls : Array Slot), lv_has ls 3 [(0, .ref (g.2.1 50)), (1, .int x1), (2, .int x2)] → GW g s (mkS σ [(3238, v_areKindsFound), (3212, v_isMeasured), (3203, v_posts)] [] [(70, v_newRoad), (54, v_road)] []) H locs → k30 x1 x2 v_areKindsFound v_isMeasured v_posts v_newRoad v_road = some (r, w_areKindsFound, w_isMeasured, w_posts, w_newRoad, w_road) → Wg p l e 1 22 s m args below meth c g (some (.int r)) (mkS σ [(3238, w_areKindsFound), (3212, w_isMeasured), (3203, w_posts)] [] [(70, w_newRoad), (54, w_road)] []) H locs (F0 m 30 ls [])) (x1 : Int32) (x2 : Int32) (v_areKindsFound : Int32) (v_isMeasured : Int32) (v_posts : Int32) (v_newRoad : Nat → Int32) (v_road : Nat → Int32) (H : Heap) (locs : List Loc) (ls : Array Slot), lv_has ls 3 [(0, .ref (g.2.1 50)), (1, .int x1), (2, .int x2)] → GW g s (mkS σ [(3238, v_areKindsFound), (3212, v_isMeasured), (3203, v_posts)] [] [(70, v_newRoad), (54, v_road)] []) H locs → M_twice_n30 k20 k30 x1 x2 v_areKindsFound v_isMeasured v_posts v_newRoad v_road = some (r, w_areKindsFound, w_isMeasured, w_posts, w_newRoad, w_road) → Wg p l e 1 22 s m args below meth c g (some (.int r)) (mkS σ [(3238, w_areKindsFound), (3212, w_isMeasured), (3203, w_posts)] [] [(70, w_newRoad), (54, w_road)] []) H locs (F0 m 30 ls []) := by
    intro k20 hk20 k30 hk30 x1 x2 v_areKindsFound v_isMeasured v_posts v_newRoad v_road H locs ls hl hG h
    unfold M_twice_n30 at h
    refine lv_iload_n hx hb dX9_twice_30 rfl (lv_at hl 2 rfl) ?_
    refine lv_aload_n hx hb dX9_twice_31 rfl (lv_at hl 0 rfl) ?_
    refine gx_get (v := .int v_posts) (C := RX9) (T := TX9) (N := 44) hx hb hts hinX9 hown hK hG (ga_50 g _) rfl 3 (by decide) hw0 rfl rfl dX9_twice_32 ?_
    refine lv_icmp_ge (tgt := 92) hx hb dX9_twice_35 (by decide) (fun c1 => ?_) (fun c1 => ?_)
    · have h := ite_t c1 h
      exact n92 k20 hk20 x1 v_areKindsFound v_isMeasured v_posts v_newRoad v_road _ _ _ (lv_sub hl [0, 1] rfl) hG h
    · have h := ite_f c1 h
      refine lv_aload_n hx hb dX9_twice_38 rfl (lv_at hl 0 rfl) ?_
      refine gx_get (v := .ref (g.2.1 54)) (C := RX9) (T := TX9) (N := 44) hx hb hts hinX9 hown hK hG (ga_50 g _) rfl 4 (by decide) hw1 rfl rfl dX9_twice_39 ?_
      refine lv_bipush (v := (32 : Int32)) hx hb dX9_twice_42 (by decide) ?_
      refine lv_iload_n hx hb dX9_twice_44 rfl (lv_at hl 1 rfl) ?_
      refine lv_imul hx hb dX9_twice_45 ?_
      refine lv_iload_n hx hb dX9_twice_46 rfl (lv_at hl 2 rfl) ?_
      refine lv_iadd hx hb dX9_twice_47 ?_
      obtain ⟨hg2, h⟩ := gd_some h
      refine gx_zald (f := v_road) hx hb hK hG (ga_54 g _) hg2 dX9_twice_48 ?_
      refine lv_if_eq (tgt := 86) hx hb dX9_twice_49 (by decide) (fun c3 => ?_) (fun c3 => ?_)
      · have h := ite_t c3 h
        exact n86 k30 hk30 x1 x2 v_areKindsFound v_isMeasured v_posts v_newRoad v_road _ _ _ (lv_sub hl [0, 1, 2] rfl) hG h
      · have h := ite_f c3 h
        refine lv_aload_n hx hb dX9_twice_52 rfl (lv_at hl 0 rfl) ?_
        refine gx_get (v := .ref (g.2.1 70)) (C := RX9) (T := TX9) (N := 44) hx hb hts hinX9 hown hK hG (ga_50 g _) rfl 29 (by decide) hw2 rfl rfl dX9_twice_53 ?_
        refine lv_bipush (v := (32 : Int32)) hx hb dX9_twice_56 (by decide) ?_
        refine lv_iload_n hx hb dX9_twice_58 rfl (lv_at hl 1 rfl) ?_
        refine lv_imul hx hb dX9_twice_59 ?_
        refine lv_aload_n hx hb dX9_twice_60 rfl (lv_at hl 0 rfl) ?_
        refine gx_get (v := .int v_posts) (C := RX9) (T := TX9) (N := 44) hx hb hts hinX9 hown hK hG (ga_50 g _) rfl 3 (by decide) hw0 rfl rfl dX9_twice_61 ?_
        refine lv_iadd hx hb dX9_twice_64 ?_
        refine lv_iload_n hx hb dX9_twice_65 rfl (lv_at hl 2 rfl) ?_
        refine lv_iadd hx hb dX9_twice_66 ?_
        refine lv_iconst (v := (1 : Int32)) hx hb dX9_twice_67 (by decide) ?_
        obtain ⟨hg4, h⟩ := gd_some h
        refine gx_zast (σ' := (mkS σ [(3238, v_areKindsFound), (3212, v_isMeasured), (3203, v_posts)] [] [(70, (upd v_newRoad (((((32 : Int32) * x1) + v_posts) + x2).toNatClampNeg) (1 : Int32))), (54, v_road)] [])) (f := v_newRoad) hx hb hK hG (ga_70 g _) hg4 (by decide) ((gs_70 g _ _).trans (congrArg (g_cells g) (mk_c 0 rfl rfl))) dX9_twice_68 (fun H locs hG => ?_)
        refine lv_aload_n hx hb dX9_twice_69 rfl (lv_at hl 0 rfl) ?_
        refine gx_get (v := .ref (g.2.1 70)) (C := RX9) (T := TX9) (N := 44) hx hb hts hinX9 hown hK hG (ga_50 g _) rfl 29 (by decide) hw2 rfl rfl dX9_twice_70 ?_
        refine lv_bipush (v := (32 : Int32)) hx hb dX9_twice_73 (by decide) ?_
        refine lv_aload_n hx hb dX9_twice_75 rfl (lv_at hl 0 rfl) ?_
        refine gx_get (v := .int v_posts) (C := RX9) (T := TX9) (N := 44) hx hb hts hinX9 hown hK hG (ga_50 g _) rfl 3 (by decide) hw0 rfl rfl dX9_twice_76 ?_
        refine lv_iload_n hx hb dX9_twice_79 rfl (lv_at hl 2 rfl) ?_
        refine lv_iadd hx hb dX9_twice_80 ?_
        refine lv_imul hx hb dX9_twice_81 ?_
        refine lv_iload_n hx hb dX9_twice_82 rfl (lv_at hl 1 rfl) ?_
        refine lv_iadd hx hb dX9_twice_83 ?_
        refine lv_iconst (v := (1 : Int32)) hx hb dX9_twice_84 (by decide) ?_
        obtain ⟨hg5, h⟩ := gd_some h
        refine gx_zast (σ' := (mkS σ [(3238, v_areKindsFound), (3212, v_isMeasured), (3203, v_posts)] [] [(70, (upd (upd v_newRoad (((((32 : Int32) * x1) + v_posts) + x2).toNatClampNeg) (1 : Int32)) ((((32 : Int32) * (v_posts + x2)) + x1).toNatClampNeg) (1 : Int32))), (54, v_road)] [])) (f := (upd v_newRoad (((((32 : Int32) * x1) + v_posts) + x2).toNatClampNeg) (1 : Int32))) hx hb hK hG (ga_70 g _) hg5 (by decide) ((gs_70 g _ _).trans (congrArg (g_cells g) (mk_c 0 rfl rfl))) dX9_twice_85 (fun H locs hG => ?_)
        exact n86 k30 hk30 x1 x2 v_areKindsFound v_isMeasured v_posts (upd (upd v_newRoad (((((32 : Int32) * x1) + v_posts) + x2).toNatClampNeg) (1 : Int32)) ((((32 : Int32) * (v_posts + x2)) + x1).toNatClampNeg) (1 : Int32)) v_road _ _ _ (lv_sub hl [0, 1, 2] rfl) hG h
  have l30 : ∀ (k20 : Int32 → Int32 → Int32 → Int32 → (Nat → Int32) → (Nat → Int32) → Option (Int32 × Int32 × Int32 × Int32 × (Nat → Int32) × (Nat → Int32))) (hk20 : ∀ (x1 : Int32) (v_areKindsFound : Int32) (v_isMeasured : Int32) (v_posts : Int32) (v_newRoad : Nat → Int32) (v_road : Nat → Int32) (H : Heap) (locs : List Loc) (ls : Array Slot), lv_has ls 3 [(0, .ref (g.2.1 50)), (1, .int x1)] → GW g s (mkS σ [(3238, v_areKindsFound), (3212, v_isMeasured), (3203, v_posts)] [] [(70, v_newRoad), (54, v_road)] []) H locs → k20 x1 v_areKindsFound v_isMeasured v_posts v_newRoad v_road = some (r, w_areKindsFound, w_isMeasured, w_posts, w_newRoad, w_road) → Wg p l e 1 22 s m args below meth c g (some (.int r)) (mkS σ [(3238, w_areKindsFound), (3212, w_isMeasured), (3203, w_posts)] [] [(70, w_newRoad), (54, w_road)] []) H locs (F0 m 20 ls [])) (F : Nat) (x1 : Int32) (x2 : Int32) (v_areKindsFound : Int32) (v_isMeasured : Int32) (v_posts : Int32) (v_newRoad : Nat → Int32) (v_road : Nat → Int32) (H : Heap) (locs : List Loc) (ls : Array Slot), lv_has ls 3 [(0, .ref (g.2.1 50)), (1, .int x1), (2, .int x2)] → GW g s (mkS σ [(3238, v_areKindsFound), (3212, v_isMeasured), (3203, v_posts)] [] [(70, v_newRoad), (54, v_road)] []) H locs → M_twice_l30 k20 F x1 x2 v_areKindsFound v_isMeasured v_posts v_newRoad v_road = some (r, w_areKindsFound, w_isMeasured, w_posts, w_newRoad, w_road) → Wg p l e 1 22 s m args below meth c g (some (.int r)) (mkS σ [(3238, w_areKindsFound), (3212, w_isMeasured), (3203, w_posts)] [] [(70, w_newRoad), (54, w_road)] []) H locs (F0 m 30 ls []) := by
    intro k20 hk20 F
    induction F with
    | zero => intro x1 x2 v_areKindsFound v_isMeasured v_posts v_newRoad v_road H locs ls hl hG h; exact no_some h
    | succ F ih => intro x1 x2 v_areKindsFound v_isMeasured v_posts v_newRoad v_road H locs ls hl hG h; exact n30 k20 hk20 (fun x1 x2 v_areKindsFound v_isMeasured v_posts v_newRoad v_road => M_twice_l30 k20 F x1 x2 v_areKindsFound v_isMeasured v_posts v_newRoad v_road) ih x1 x2 v_areKindsFound v_isMeasured v_posts v_newRoad v_road H locs ls hl hG h
  have n98 : ∀ (v_areKindsFound : Int32) (v_isMeasured : Int32) (v_posts : Int32) (v_newRoad : Nat → Int32) (v_road : Nat → Int32) (H : Heap) (locs : List Loc) (ls : Array Slot), lv_has ls 3 [(0, .ref (g.2.1 50))] → GW g s (mkS σ [(3238, v_areKindsFound), (3212, v_isMeasured), (3203, v_posts)] [] [(70, v_newRoad), (54, v_road)] []) H locs → M_twice_n98 v_areKindsFound v_isMeasured v_posts v_newRoad v_road = some (r, w_areKindsFound, w_isMeasured, w_posts, w_newRoad, w_road) → Wg p l e 1 22 s m args below meth c g (some (.int r)) (mkS σ [(3238, w_areKindsFound), (3212, w_isMeasured), (3203, w_posts)] [] [(70, w_newRoad), (54, w_road)] []) H locs (F0 m 98 ls []) := by
    intro v_areKindsFound v_isMeasured v_posts v_newRoad v_road H locs ls hl hG h
    unfold M_twice_n98 at h
    refine lv_aload_n hx hb dX9_twice_98 rfl (lv_at hl 0 rfl) ?_
    refine lv_iconst (v := (2 : Int32)) hx hb dX9_twice_99 (by decide) ?_
    refine lv_aload_n hx hb dX9_twice_100 rfl (lv_at hl 0 rfl) ?_
    refine gx_get (v := .int v_posts) (C := RX9) (T := TX9) (N := 44) hx hb hts hinX9 hown hK hG (ga_50 g _) rfl 3 (by decide) hw0 rfl rfl dX9_twice_101 ?_
    refine lv_imul hx hb dX9_twice_104 ?_
    obtain ⟨z6, hc7, h⟩ := bnd_some h
    refine gx_cV (σ' := (mkS σ [(3238, z6.1), (3212, z6.2.1), (3203, z6.2.2.1)] [] [(70, v_newRoad), (54, z6.2.2.2)] [])) (r := none) (rest := []) (As := [.int ((2 : Int32) * v_posts)]) hS9 (c_M_become l g (mkS σ [(3238, v_areKindsFound), (3212, v_isMeasured), (3203, v_posts)] [] [(70, v_newRoad), (54, v_road)] []) ((2 : Int32) * v_posts) z6.1 z6.2.1 z6.2.2.1 z6.2.2.2 hc7) (mk_mk rfl rfl rfl rfl) (cwV 1 hts gX9_twice_X9_become rfl rfl rfl (by decide +kernel) ⟨Nat.le_of_ble_eq_true rfl, Nat.le_of_ble_eq_true rfl⟩) hK hG (ga_50 g _) rfl rfl rfl hl.1 rfl (Nat.le_of_ble_eq_true rfl) dX9_twice_105 (fun H locs hG => ?_)
    refine W.eq (g2 := F0 m 108 ls []) rfl ?_
    refine lv_aload_n hx hb dX9_twice_108 rfl (lv_at hl 0 rfl) ?_
    refine gx_get (v := .int z6.2.2.1) (C := RX9) (T := TX9) (N := 44) hx hb hts hinX9 hown hK hG (ga_50 g _) rfl 3 (by decide) hw0 rfl rfl dX9_twice_109 ?_
    cases h
    exact gx_iret hx hb hr hlocks hG dX9_twice_112
  have n20 : ∀ (k20 : Int32 → Int32 → Int32 → Int32 → (Nat → Int32) → (Nat → Int32) → Option (Int32 × Int32 × Int32 × Int32 × (Nat → Int32) × (Nat → Int32))) (hk20 : ∀ (x1 : Int32) (v_areKindsFound : Int32) (v_isMeasured : Int32) (v_posts : Int32) (v_newRoad : Nat → Int32) (v_road : Nat → Int32) (H : Heap) (locs : List Loc) (ls : Array Slot), lv_has ls 3 [(0, .ref (g.2.1 50)), (1, .int x1)] → GW g s (mkS σ [(3238, v_areKindsFound), (3212, v_isMeasured), (3203, v_posts)] [] [(70, v_newRoad), (54, v_road)] []) H locs → k20 x1 v_areKindsFound v_isMeasured v_posts v_newRoad v_road = some (r, w_areKindsFound, w_isMeasured, w_posts, w_newRoad, w_road) → Wg p l e 1 22 s m args below meth c g (some (.int r)) (mkS σ [(3238, w_areKindsFound), (3212, w_isMeasured), (3203, w_posts)] [] [(70, w_newRoad), (54, w_road)] []) H locs (F0 m 20 ls [])) (x1 : Int32) (v_areKindsFound : Int32) (v_isMeasured : Int32) (v_posts : Int32) (v_newRoad : Nat → Int32) (v_road : Nat → Int32) (H : Heap) (locs : List Loc) (ls : Array Slot), lv_has ls 3 [(0, .ref (g.2.1 50)), (1, .int x1)] → GW g s (mkS σ [(3238, v_areKindsFound), (3212, v_isMeasured), (3203, v_posts)] [] [(70, v_newRoad), (54, v_road)] []) H locs → M_twice_n20 k20 x1 v_areKindsFound v_isMeasured v_posts v_newRoad v_road = some (r, w_areKindsFound, w_isMeasured, w_posts, w_newRoad, w_road) → Wg p l e 1 22 s m args below meth c g (some (.int r)) (mkS σ [(3238, w_areKindsFound), (3212, w_isMeasured), (3203, w_posts)] [] [(70, w_newRoad), (54, w_road)] []) H locs (F0 m 20 ls []) := by
    intro k20 hk20 x1 v_areKindsFound v_isMeasured v_posts v_newRoad v_road H locs ls hl hG h
    unfold M_twice_n20 at h
    refine lv_iload_n hx hb dX9_twice_20 rfl (lv_at hl 1 rfl) ?_
    refine lv_aload_n hx hb dX9_twice_21 rfl (lv_at hl 0 rfl) ?_
    refine gx_get (v := .int v_posts) (C := RX9) (T := TX9) (N := 44) hx hb hts hinX9 hown hK hG (ga_50 g _) rfl 3 (by decide) hw0 rfl rfl dX9_twice_22 ?_
    refine lv_icmp_ge (tgt := 98) hx hb dX9_twice_25 (by decide) (fun c8 => ?_) (fun c8 => ?_)
    · have h := ite_t c8 h
      exact n98 v_areKindsFound v_isMeasured v_posts v_newRoad v_road _ _ _ (lv_sub hl [0] rfl) hG h
    · have h := ite_f c8 h
      refine lv_iconst (v := (0 : Int32)) hx hb dX9_twice_28 (by decide) ?_
      refine lv_istore_n (lv' := [(2, .int (0 : Int32)), (0, .ref (g.2.1 50)), (1, .int x1)]) hx hb dX9_twice_29 rfl hl (Nat.le_of_ble_eq_true rfl) rfl (fun ls hl => ?_)
      exact l30 k20 hk20 FUEL x1 (0 : Int32) v_areKindsFound v_isMeasured v_posts v_newRoad v_road _ _ _ (lv_sub hl [1, 2, 0] rfl) hG h
  have l20 : ∀  (F : Nat) (x1 : Int32) (v_areKindsFound : Int32) (v_isMeasured : Int32) (v_posts : Int32) (v_newRoad : Nat → Int32) (v_road : Nat → Int32) (H : Heap) (locs : List Loc) (ls : Array Slot), lv_has ls 3 [(0, .ref (g.2.1 50)), (1, .int x1)] → GW g s (mkS σ [(3238, v_areKindsFound), (3212, v_isMeasured), (3203, v_posts)] [] [(70, v_newRoad), (54, v_road)] []) H locs → M_twice_l20 F x1 v_areKindsFound v_isMeasured v_posts v_newRoad v_road = some (r, w_areKindsFound, w_isMeasured, w_posts, w_newRoad, w_road) → Wg p l e 1 22 s m args below meth c g (some (.int r)) (mkS σ [(3238, w_areKindsFound), (3212, w_isMeasured), (3203, w_posts)] [] [(70, w_newRoad), (54, w_road)] []) H locs (F0 m 20 ls []) := by
    intro F
    induction F with
    | zero => intro x1 v_areKindsFound v_isMeasured v_posts v_newRoad v_road H locs ls hl hG h; exact no_some h
    | succ F ih => intro x1 v_areKindsFound v_isMeasured v_posts v_newRoad v_road H locs ls hl hG h; exact n20 (fun x1 v_areKindsFound v_isMeasured v_posts v_newRoad v_road => M_twice_l20 F x1 v_areKindsFound v_isMeasured v_posts v_newRoad v_road) ih x1 v_areKindsFound v_isMeasured v_posts v_newRoad v_road H locs ls hl hG h
  refine lv_iconst (v := (2 : Int32)) hx hb dX9_twice_0 (by decide) ?_
  refine lv_aload_n hx hb dX9_twice_1 rfl (lv_at hl 0 rfl) ?_
  refine gx_get (v := .int (σ.1 3203)) (C := RX9) (T := TX9) (N := 44) hx hb hts hinX9 hown hK hG (ga_50 g _) rfl 3 (by decide) hw0 rfl rfl dX9_twice_2 ?_
  refine lv_imul hx hb dX9_twice_5 ?_
  refine lv_bipush (v := (32 : Int32)) hx hb dX9_twice_6 (by decide) ?_
  refine lv_icmp_le (tgt := 14) hx hb dX9_twice_8 (by decide) (fun c9 => ?_) (fun c9 => ?_)
  · have h := ite_t c9 h
    refine lv_aload_n hx hb dX9_twice_14 rfl (lv_at hl 0 rfl) ?_
    obtain ⟨z10, hc11, h⟩ := bnd_some h
    refine gx_cV (σ' := (mkS σ [(3238, (σ.1 3238)), (3212, (σ.1 3212)), (3203, (σ.1 3203))] [] [(70, z10), (54, (σ.2.2.1 54))] [])) (r := none) (rest := []) (As := []) hS9 (c_M_clearNew l g (mkS σ [(3238, (σ.1 3238)), (3212, (σ.1 3212)), (3203, (σ.1 3203))] [] [(70, (σ.2.2.1 70)), (54, (σ.2.2.1 54))] []) z10 hc11) (mk_mk rfl rfl rfl rfl) (cwV 0 hts gX9_twice_X9_clearNew rfl rfl rfl (by decide +kernel) ⟨Nat.le_of_ble_eq_true rfl, Nat.le_of_ble_eq_true rfl⟩) hK hG (ga_50 g _) rfl rfl rfl hl.1 rfl (Nat.le_of_ble_eq_true rfl) dX9_twice_15 (fun H locs hG => ?_)
    refine W.eq (g2 := F0 m 18 ls []) rfl ?_
    refine lv_iconst (v := (0 : Int32)) hx hb dX9_twice_18 (by decide) ?_
    refine lv_istore_n (lv' := [(1, .int (0 : Int32)), (0, .ref (g.2.1 50))]) hx hb dX9_twice_19 rfl hl (Nat.le_of_ble_eq_true rfl) rfl (fun ls hl => ?_)
    exact l20 FUEL (0 : Int32) (σ.1 3238) (σ.1 3212) (σ.1 3203) z10 (σ.2.2.1 54) _ _ _ (lv_sub hl [1, 0] rfl) hG h
  · have h := ite_f c9 h
    refine lv_bipush (v := (-2 : Int32)) hx hb dX9_twice_11 (by decide) ?_
    cases h
    exact gx_iret hx hb hr hlocks hG dX9_twice_13

set_option maxHeartbeats 4000000 in
set_option maxRecDepth 100000 in
theorem c_M_walks (l : Launch) (g : GC) (σ : St) (x1 : Int32) (x2 : Int32) (r : Int64) (w_all : Int64) (w_next : Nat → Int64) (w_sizes : Nat → Int64) (w_walk : Nat → Int64) (h : M_walks x1 x2 (σ.1 3208) (σ.2.1 3224) (σ.2.2.1 56) (σ.2.2.1 57) (σ.2.2.2 69) (σ.2.2.2 65) (σ.2.2.2 68) = some (r, w_all, w_next, w_sizes, w_walk)) : Cn l g yX9_walks wsX9_walks 2 47 [.ref (g.2.1 50), .int x1, .int x2] σ (some (.long r)) (mkS σ [] [(3224, w_all)] [] [(69, w_next), (65, w_sizes), (68, w_walk)]) := by
  unfold Cn
  refine Met.ofW (cc := cX9_walks) (maxL := 7) (ret := (some .long)) (by decide) rfl ?_
  intro p e s m args below meth c s₁ B hml hv
  obtain ⟨hargs, hP0, hK⟩ := hv
  have hx := B.exec
  have hb := B.bytes
  have hr := B.returns
  have hts := atoms_spec (ws := wsX9_walks) B.pre
  have hown : s.vm.findClass RX9 = some m.cls := findClass_of_methodNamed B.named
  have hlocks := B.notSynchronized
  have hS9 : CallFix p m c cX9_walks 7 s args wsX9_walks RX9 := ⟨hx, hb, hml, hown, hts⟩
  have hinX9 : ∀ w ∈ wsX90, w ∈ wsX9_walks := fun w h => List.mem_cons_of_mem _ (List.mem_append_right _ (h))
  have hw0 := hts (.constantLong RX9 277 (-1)) (List.mem_of_getElem? (i := 3) rfl)
  have hw1 := hts (.fieldLink RX9 70 "LikeNetsModel" "next" "[J") (List.mem_of_getElem? (i := 8) rfl)
  have hw2 := hts (.fieldLink RX9 26 "LikeNetsModel" "length" "I") (List.mem_of_getElem? (i := 1) rfl)
  have hw3 := hts (.fieldLink RX9 30 "LikeNetsModel" "toldB" "[I") (List.mem_of_getElem? (i := 7) rfl)
  have hw4 := hts (.fieldLink RX9 67 "LikeNetsModel" "walk" "[J") (List.mem_of_getElem? (i := 5) rfl)
  have hw5 := hts (.fieldLink RX9 33 "LikeNetsModel" "toldC" "[I") (List.mem_of_getElem? (i := 6) rfl)
  have hw6 := hts (.constantLong RX9 275 (8)) (List.mem_of_getElem? (i := 2) rfl)
  have hw7 := hts (.constantLong RX9 279 (-6)) (List.mem_of_getElem? (i := 4) rfl)
  have hf9 : entryFrame m args 7 = _ := (congrArg (fun a => entryFrame m a 7) hargs).trans (lg_entry_eq m [.ref (g.2.1 50), .int x1, .int x2] 7)
  show Wg p l e 2 47 s m args below meth c g (some (.long r)) (mkS σ [] [(3224, w_all)] [] [(69, w_next), (65, w_sizes), (68, w_walk)]) s.heap [] (entryFrame m args 7)
  rw [hf9]
  have hl := lv_entry ([.ref (g.2.1 50), .int x1, .int x2]) (n := 7) (Nat.le_of_ble_eq_true rfl)
  generalize (lg_sl ([.ref (g.2.1 50), .int x1, .int x2]) ++ List.replicate (7 - (lg_sl ([.ref (g.2.1 50), .int x1, .int x2])).length) Slot.unset).toArray = ls at hl ⊢
  have hl : lv_has ls 7 [(0, .ref (g.2.1 50)), (1, .int x1), (2, .int x2)] := hl
  have hG : GW g s σ s.heap [] := ⟨hP0, va_S.rf⟩
  have hG : GW g s (mkS σ [] [(3224, (σ.2.1 3224))] [] [(69, (σ.2.2.2 69)), (65, (σ.2.2.2 65)), (68, (σ.2.2.2 68))]) s.heap [] := GW_self [] [3224] [] [69, 65, 68] hG
  unfold M_walks at h
  have n26 : ∀ (v_all : Int64) (v_next : Nat → Int64) (v_sizes : Nat → Int64) (v_walk : Nat → Int64) (H : Heap) (locs : List Loc) (ls : Array Slot), lv_has ls 7 [] → GW g s (mkS σ [] [(3224, v_all)] [] [(69, v_next), (65, v_sizes), (68, v_walk)]) H locs → M_walks_n26 v_all v_next v_sizes v_walk = some (r, w_all, w_next, w_sizes, w_walk) → Wg p l e 2 47 s m args below meth c g (some (.long r)) (mkS σ [] [(3224, w_all)] [] [(69, w_next), (65, w_sizes), (68, w_walk)]) H locs (F0 m 26 ls []) := by
    intro v_all v_next v_sizes v_walk H locs ls hl hG h
    unfold M_walks_n26 at h
    refine lv_ldc2 hx hb hown hw0 dX9_walks_26 ?_
    cases h
    exact gx_lret hx hb hr hlocks hG dX9_walks_29
  have n65 : ∀ (k43 : Int32 → Int32 → Int32 → Int64 → (Nat → Int64) → (Nat → Int64) → (Nat → Int64) → Option (Int64 × Int64 × (Nat → Int64) × (Nat → Int64) × (Nat → Int64))) (hk43 : ∀ (x1 : Int32) (x2 : Int32) (x3 : Int32) (v_all : Int64) (v_next : Nat → Int64) (v_sizes : Nat → Int64) (v_walk : Nat → Int64) (H : Heap) (locs : List Loc) (ls : Array Slot), lv_has ls 7 [(0, .ref (g.2.1 50)), (1, .int x1), (2, .int x2), (3, .int x3)] → GW g s (mkS σ [] [(3224, v_all)] [] [(69, v_next), (65, v_sizes), (68, v_walk)]) H locs → k43 x1 x2 x3 v_all v_next v_sizes v_walk = some (r, w_all, w_next, w_sizes, w_walk) → Wg p l e 2 47 s m args below meth c g (some (.long r)) (mkS σ [] [(3224, w_all)] [] [(69, w_next), (65, w_sizes), (68, w_walk)]) H locs (F0 m 43 ls [])) (x1 : Int32) (x2 : Int32) (x3 : Int32) (t1 : Int32) (t2 : Int64) (v_all : Int64) (v_next : Nat → Int64) (v_sizes : Nat → Int64) (v_walk : Nat → Int64) (H : Heap) (locs : List Loc) (ls : Array Slot), lv_has ls 7 [(0, .ref (g.2.1 50)), (1, .int x1), (2, .int x2), (3, .int x3)] → GW g s (mkS σ [] [(3224, v_all)] [] [(69, v_next), (65, v_sizes), (68, v_walk)]) H locs → M_walks_n65 k43 x1 x2 x3 t1 t2 v_all v_next v_sizes v_walk = some (r, w_all, w_next, w_sizes, w_walk) → Wg p l e 2 47 s m args below meth c g (some (.long r)) (mkS σ [] [(3224, w_all)] [] [(69, w_next), (65, w_sizes), (68, w_walk)]) H locs (F0 m 65 ls [.long t2, .int t1, .ref (g.2.1 68)]) := by
    intro k43 hk43 x1 x2 x3 t1 t2 v_all v_next v_sizes v_walk H locs ls hl hG h
    unfold M_walks_n65 at h
    obtain ⟨hg1, h⟩ := gd_some h
    refine gx_last (σ' := (mkS σ [] [(3224, v_all)] [] [(69, v_next), (65, v_sizes), (68, (vp_updL v_walk (t1.toNatClampNeg) t2))])) (f := v_walk) hx hb hK hG (ga_68 g _) hg1 ((gs_68 g _ _).trans (congrArg (g_cells g) (mk_d 2 rfl rfl))) dX9_walks_65 (fun H locs hG => ?_)
    refine lv_iinc (v := (x3 + (1 : Int32))) (lv' := [(3, .int (x3 + (1 : Int32))), (0, .ref (g.2.1 50)), (1, .int x1), (2, .int x2)]) hx hb dX9_walks_66 hl (k := 3) rfl (congrArg (fun z => x3 + z) (by decide)) (Nat.le_of_ble_eq_true rfl) rfl (fun ls hl => ?_)
    refine lv_goto (tgt := 43) hx hb dX9_walks_69 (by decide) ?_
    exact hk43 x1 x2 (x3 + (1 : Int32)) v_all v_next v_sizes (vp_updL v_walk (t1.toNatClampNeg) t2) _ _ _ (lv_sub hl [1, 2, 3, 0] rfl) hG h
  have n173 : ∀ (k82 : Int32 → Int32 → Int32 → Int32 → Int64 → (Nat → Int64) → (Nat → Int64) → (Nat → Int64) → Option (Int64 × Int64 × (Nat → Int64) × (Nat → Int64) × (Nat → Int64))) (hk82 : ∀ (x1 : Int32) (x2 : Int32) (x3 : Int32) (x4 : Int32) (v_all : Int64) (v_next : Nat → Int64) (v_sizes : Nat → Int64) (v_walk : Nat → Int64) (H : Heap) (locs : List Loc) (ls : Array Slot), lv_has ls 7 [(0, .ref (g.2.1 50)), (1, .int x1), (2, .int x2), (3, .int x3), (4, .int x4)] → GW g s (mkS σ [] [(3224, v_all)] [] [(69, v_next), (65, v_sizes), (68, v_walk)]) H locs → k82 x1 x2 x3 x4 v_all v_next v_sizes v_walk = some (r, w_all, w_next, w_sizes, w_walk) → Wg p l e 2 47 s m args below meth c g (some (.long r)) (mkS σ [] [(3224, w_all)] [] [(69, w_next), (65, w_sizes), (68, w_walk)]) H locs (F0 m 82 ls [])) (x1 : Int32) (x2 : Int32) (x3 : Int32) (x4 : Int32) (t0 : Int64) (t1 : Int64) (v_all : Int64) (v_next : Nat → Int64) (v_sizes : Nat → Int64) (v_walk : Nat → Int64) (H : Heap) (locs : List Loc) (ls : Array Slot), lv_has ls 7 [(0, .ref (g.2.1 50)), (1, .int x1), (2, .int x2), (3, .int x3), (4, .int x4)] → GW g s (mkS σ [] [(3224, v_all)] [] [(69, v_next), (65, v_sizes), (68, v_walk)]) H locs → M_walks_n173 k82 x1 x2 x3 x4 t0 t1 v_all v_next v_sizes v_walk = some (r, w_all, w_next, w_sizes, w_walk) → Wg p l e 2 47 s m args below meth c g (some (.long r)) (mkS σ [] [(3224, w_all)] [] [(69, w_next), (65, w_sizes), (68, w_walk)]) H locs (F0 m 173 ls [.long t1, .long t0]) := by
    intro k82 hk82 x1 x2 x3 x4 t0 t1 v_all v_next v_sizes v_walk H locs ls hl hG h
    unfold M_walks_n173 at h
    refine lv_ladd hx hb dX9_walks_173 ?_
    refine lv_lstore (lv' := [(5, .long (t0 + t1)), (0, .ref (g.2.1 50)), (1, .int x1), (2, .int x2), (3, .int x3), (4, .int x4)]) hx hb dX9_walks_174 hl (Nat.le_of_ble_eq_true rfl) rfl (fun ls hl => ?_)
    refine lv_aload_n hx hb dX9_walks_176 rfl (lv_at hl 1 rfl) ?_
    refine gx_get (v := .ref (g.2.1 69)) (C := RX9) (T := TX9) (N := 44) hx hb hts hinX9 hown hK hG (ga_50 g _) rfl 28 (by decide) hw1 rfl rfl dX9_walks_177 ?_
    refine lv_iload hx hb dX9_walks_180 (lv_at hl 5 rfl) ?_
    refine lv_lload hx hb dX9_walks_182 (lv_at hl 0 rfl) ?_
    obtain ⟨hg2, h⟩ := gd_some h
    refine gx_last (σ' := (mkS σ [] [(3224, v_all)] [] [(69, (vp_updL v_next (x4.toNatClampNeg) (t0 + t1))), (65, v_sizes), (68, v_walk)])) (f := v_next) hx hb hK hG (ga_69 g _) hg2 ((gs_69 g _ _).trans (congrArg (g_cells g) (mk_d 0 rfl rfl))) dX9_walks_184 (fun H locs hG => ?_)
    refine lv_iinc (v := (x4 + (1 : Int32))) (lv' := [(4, .int (x4 + (1 : Int32))), (5, .long (t0 + t1)), (0, .ref (g.2.1 50)), (1, .int x1), (2, .int x2), (3, .int x3)]) hx hb dX9_walks_185 hl (k := 5) rfl (congrArg (fun z => x4 + z) (by decide)) (Nat.le_of_ble_eq_true rfl) rfl (fun ls hl => ?_)
    refine lv_goto (tgt := 82) hx hb dX9_walks_188 (by decide) ?_
    exact hk82 x1 x2 x3 (x4 + (1 : Int32)) v_all (vp_updL v_next (x4.toNatClampNeg) (t0 + t1)) v_sizes v_walk _ _ _ (lv_sub hl [2, 3, 4, 5, 0] rfl) hG h
  have n137 : ∀ (k82 : Int32 → Int32 → Int32 → Int32 → Int64 → (Nat → Int64) → (Nat → Int64) → (Nat → Int64) → Option (Int64 × Int64 × (Nat → Int64) × (Nat → Int64) × (Nat → Int64))) (hk82 : ∀ (x1 : Int32) (x2 : Int32) (x3 : Int32) (x4 : Int32) (v_all : Int64) (v_next : Nat → Int64) (v_sizes : Nat → Int64) (v_walk : Nat → Int64) (H : Heap) (locs : List Loc) (ls : Array Slot), lv_has ls 7 [(0, .ref (g.2.1 50)), (1, .int x1), (2, .int x2), (3, .int x3), (4, .int x4)] → GW g s (mkS σ [] [(3224, v_all)] [] [(69, v_next), (65, v_sizes), (68, v_walk)]) H locs → k82 x1 x2 x3 x4 v_all v_next v_sizes v_walk = some (r, w_all, w_next, w_sizes, w_walk) → Wg p l e 2 47 s m args below meth c g (some (.long r)) (mkS σ [] [(3224, w_all)] [] [(69, w_next), (65, w_sizes), (68, w_walk)]) H locs (F0 m 82 ls [])) (x1 : Int32) (x2 : Int32) (x3 : Int32) (x4 : Int32) (t0 : Int64) (t1 : Int64) (v_all : Int64) (v_next : Nat → Int64) (v_sizes : Nat → Int64) (v_walk : Nat → Int64) (H : Heap) (locs : List Loc) (ls : Array Slot), lv_has ls 7 [(0, .ref (g.2.1 50)), (1, .int x1), (2, .int x2), (3, .int x3), (4, .int x4)] → GW g s (mkS σ [] [(3224, v_all)] [] [(69, v_next), (65, v_sizes), (68, v_walk)]) H locs → M_walks_n137 k82 (σ.1 3208) (σ.2.2.1 56) x1 x2 x3 x4 t0 t1 v_all v_next v_sizes v_walk = some (r, w_all, w_next, w_sizes, w_walk) → Wg p l e 2 47 s m args below meth c g (some (.long r)) (mkS σ [] [(3224, w_all)] [] [(69, w_next), (65, w_sizes), (68, w_walk)]) H locs (F0 m 137 ls [.long t1, .long t0]) := by
    intro k82 hk82 x1 x2 x3 x4 t0 t1 v_all v_next v_sizes v_walk H locs ls hl hG h
    unfold M_walks_n137 at h
    refine lv_ladd hx hb dX9_walks_137 ?_
    refine lv_lstore (lv' := [(5, .long (t0 + t1)), (0, .ref (g.2.1 50)), (1, .int x1), (2, .int x2), (3, .int x3), (4, .int x4)]) hx hb dX9_walks_138 hl (Nat.le_of_ble_eq_true rfl) rfl (fun ls hl => ?_)
    refine lv_lload hx hb dX9_walks_140 (lv_at hl 0 rfl) ?_
    refine lv_iload hx hb dX9_walks_142 (lv_at hl 5 rfl) ?_
    refine lv_aload_n hx hb dX9_walks_144 rfl (lv_at hl 1 rfl) ?_
    refine gx_get (v := .int (σ.1 3208)) (C := RX9) (T := TX9) (N := 44) hx hb hts hinX9 hown hK hG (ga_50 g _) rfl 8 (by decide) hw2 rfl rfl dX9_walks_145 ?_
    refine lv_icmp_ge (tgt := 172) hx hb dX9_walks_148 (by decide) (fun c3 => ?_) (fun c3 => ?_)
    · have h := ite_t c3 h
      refine lv_lconst (v := (0 : Int64)) hx hb dX9_walks_172 (by decide) ?_
      exact n173 k82 hk82 x1 x2 x3 x4 (t0 + t1) (0 : Int64) v_all v_next v_sizes v_walk _ _ _ (lv_sub hl [1, 2, 3, 4, 5] rfl) hG h
    · have h := ite_f c3 h
      refine lv_aload_n hx hb dX9_walks_151 rfl (lv_at hl 1 rfl) ?_
      refine gx_get (v := .ref (g.2.1 56)) (C := RX9) (T := TX9) (N := 44) hx hb hts hinX9 hown hK hG (ga_50 g _) rfl 9 (by decide) hw3 rfl rfl dX9_walks_152 ?_
      refine lv_iload hx hb dX9_walks_155 (lv_at hl 5 rfl) ?_
      obtain ⟨hg4, h⟩ := gd_some h
      refine gx_iald (f := (σ.2.2.1 56)) hx hb hK hG (ga_56 g _) hg4 dX9_walks_157 ?_
      refine lv_i2l hx hb dX9_walks_158 rfl ?_
      refine lv_aload_n hx hb dX9_walks_159 rfl (lv_at hl 1 rfl) ?_
      refine gx_get (v := .ref (g.2.1 68)) (C := RX9) (T := TX9) (N := 44) hx hb hts hinX9 hown hK hG (ga_50 g _) rfl 27 (by decide) hw4 rfl rfl dX9_walks_160 ?_
      refine lv_iload hx hb dX9_walks_163 (lv_at hl 5 rfl) ?_
      refine lv_iconst (v := (1 : Int32)) hx hb dX9_walks_165 (by decide) ?_
      refine lv_iadd hx hb dX9_walks_166 ?_
      obtain ⟨hg5, h⟩ := gd_some h
      refine gx_lald (f := v_walk) hx hb hK hG (ga_68 g _) hg5 dX9_walks_167 ?_
      refine lv_lmul hx hb dX9_walks_168 ?_
      refine lv_goto (tgt := 173) hx hb dX9_walks_169 (by decide) ?_
      exact n173 k82 hk82 x1 x2 x3 x4 (t0 + t1) ((((σ.2.2.1 56) (x4.toNatClampNeg)).toInt64) * (v_walk ((x4 + (1 : Int32)).toNatClampNeg))) v_all v_next v_sizes v_walk _ _ _ (lv_sub hl [1, 2, 3, 4, 5] rfl) hG h
  have n223 : ∀ (k74 : Int32 → Int32 → Int32 → Int64 → (Nat → Int64) → (Nat → Int64) → (Nat → Int64) → Option (Int64 × Int64 × (Nat → Int64) × (Nat → Int64) × (Nat → Int64))) (hk74 : ∀ (x1 : Int32) (x2 : Int32) (x3 : Int32) (v_all : Int64) (v_next : Nat → Int64) (v_sizes : Nat → Int64) (v_walk : Nat → Int64) (H : Heap) (locs : List Loc) (ls : Array Slot), lv_has ls 7 [(0, .ref (g.2.1 50)), (1, .int x1), (2, .int x2), (3, .int x3)] → GW g s (mkS σ [] [(3224, v_all)] [] [(69, v_next), (65, v_sizes), (68, v_walk)]) H locs → k74 x1 x2 x3 v_all v_next v_sizes v_walk = some (r, w_all, w_next, w_sizes, w_walk) → Wg p l e 2 47 s m args below meth c g (some (.long r)) (mkS σ [] [(3224, w_all)] [] [(69, w_next), (65, w_sizes), (68, w_walk)]) H locs (F0 m 74 ls [])) (x1 : Int32) (x2 : Int32) (x3 : Int32) (v_all : Int64) (v_next : Nat → Int64) (v_sizes : Nat → Int64) (v_walk : Nat → Int64) (H : Heap) (locs : List Loc) (ls : Array Slot), lv_has ls 7 [(0, .ref (g.2.1 50)), (1, .int x1), (2, .int x2), (3, .int x3)] → GW g s (mkS σ [] [(3224, v_all)] [] [(69, v_next), (65, v_sizes), (68, v_walk)]) H locs → M_walks_n223 k74 x1 x2 x3 v_all v_next v_sizes v_walk = some (r, w_all, w_next, w_sizes, w_walk) → Wg p l e 2 47 s m args below meth c g (some (.long r)) (mkS σ [] [(3224, w_all)] [] [(69, w_next), (65, w_sizes), (68, w_walk)]) H locs (F0 m 223 ls []) := by
    intro k74 hk74 x1 x2 x3 v_all v_next v_sizes v_walk H locs ls hl hG h
    unfold M_walks_n223 at h
    refine lv_iinc (v := (x3 + (1 : Int32))) (lv' := [(3, .int (x3 + (1 : Int32))), (0, .ref (g.2.1 50)), (1, .int x1), (2, .int x2)]) hx hb dX9_walks_223 hl (k := 3) rfl (congrArg (fun z => x3 + z) (by decide)) (Nat.le_of_ble_eq_true rfl) rfl (fun ls hl => ?_)
    refine lv_goto (tgt := 74) hx hb dX9_walks_226 (by decide) ?_
    exact hk74 x1 x2 (x3 + (1 : Int32)) v_all v_next v_sizes v_walk _ _ _ (lv_sub hl [1, 2, 3, 0] rfl) hG h
  have n194 : ∀ (k74 : Int32 → Int32 → Int32 → Int64 → (Nat → Int64) → (Nat → Int64) → (Nat → Int64) → Option (Int64 × Int64 × (Nat → Int64) × (Nat → Int64) × (Nat → Int64))) (hk74 : ∀ (x1 : Int32) (x2 : Int32) (x3 : Int32) (v_all : Int64) (v_next : Nat → Int64) (v_sizes : Nat → Int64) (v_walk : Nat → Int64) (H : Heap) (locs : List Loc) (ls : Array Slot), lv_has ls 7 [(0, .ref (g.2.1 50)), (1, .int x1), (2, .int x2), (3, .int x3)] → GW g s (mkS σ [] [(3224, v_all)] [] [(69, v_next), (65, v_sizes), (68, v_walk)]) H locs → k74 x1 x2 x3 v_all v_next v_sizes v_walk = some (r, w_all, w_next, w_sizes, w_walk) → Wg p l e 2 47 s m args below meth c g (some (.long r)) (mkS σ [] [(3224, w_all)] [] [(69, w_next), (65, w_sizes), (68, w_walk)]) H locs (F0 m 74 ls [])) (k194 : Int32 → Int32 → Int32 → Int32 → Int64 → (Nat → Int64) → (Nat → Int64) → (Nat → Int64) → Option (Int64 × Int64 × (Nat → Int64) × (Nat → Int64) × (Nat → Int64))) (hk194 : ∀ (x1 : Int32) (x2 : Int32) (x3 : Int32) (x4 : Int32) (v_all : Int64) (v_next : Nat → Int64) (v_sizes : Nat → Int64) (v_walk : Nat → Int64) (H : Heap) (locs : List Loc) (ls : Array Slot), lv_has ls 7 [(0, .ref (g.2.1 50)), (1, .int x1), (2, .int x2), (3, .int x3), (4, .int x4)] → GW g s (mkS σ [] [(3224, v_all)] [] [(69, v_next), (65, v_sizes), (68, v_walk)]) H locs → k194 x1 x2 x3 x4 v_all v_next v_sizes v_walk = some (r, w_all, w_next, w_sizes, w_walk) → Wg p l e 2 47 s m args below meth c g (some (.long r)) (mkS σ [] [(3224, w_all)] [] [(69, w_next), (65, w_sizes), (68, w_walk)]) H locs (F0 m 194 ls [])) (x1 : Int32) (x2 : Int32) (x3 : Int32) (x4 : Int32) (v_all : Int64) (v_next : Nat → Int64) (v_sizes : Nat → Int64) (v_walk : Nat → Int64) (H : Heap) (locs : List Loc) (ls : Array Slot), lv_has ls 7 [(0, .ref (g.2.1 50)), (1, .int x1), (2, .int x2), (3, .int x3), (4, .int x4)] → GW g s (mkS σ [] [(3224, v_all)] [] [(69, v_next), (65, v_sizes), (68, v_walk)]) H locs → M_walks_n194 k74 k194 (σ.1 3208) x1 x2 x3 x4 v_all v_next v_sizes v_walk = some (r, w_all, w_next, w_sizes, w_walk) → Wg p l e 2 47 s m args below meth c g (some (.long r)) (mkS σ [] [(3224, w_all)] [] [(69, w_next), (65, w_sizes), (68, w_walk)]) H locs (F0 m 194 ls []) := by
    intro k74 hk74 k194 hk194 x1 x2 x3 x4 v_all v_next v_sizes v_walk H locs ls hl hG h
    unfold M_walks_n194 at h
    refine lv_iload hx hb dX9_walks_194 (lv_at hl 4 rfl) ?_
    refine lv_aload_n hx hb dX9_walks_196 rfl (lv_at hl 0 rfl) ?_
    refine gx_get (v := .int (σ.1 3208)) (C := RX9) (T := TX9) (N := 44) hx hb hts hinX9 hown hK hG (ga_50 g _) rfl 8 (by decide) hw2 rfl rfl dX9_walks_197 ?_
    refine lv_icmp_gt (tgt := 223) hx hb dX9_walks_200 (by decide) (fun c6 => ?_) (fun c6 => ?_)
    · have h := ite_t c6 h
      exact n223 k74 hk74 x1 x2 x3 v_all v_next v_sizes v_walk _ _ _ (lv_sub hl [0, 1, 2, 3] rfl) hG h
    · have h := ite_f c6 h
      refine lv_aload_n hx hb dX9_walks_203 rfl (lv_at hl 0 rfl) ?_
      refine gx_get (v := .ref (g.2.1 68)) (C := RX9) (T := TX9) (N := 44) hx hb hts hinX9 hown hK hG (ga_50 g _) rfl 27 (by decide) hw4 rfl rfl dX9_walks_204 ?_
      refine lv_iload hx hb dX9_walks_207 (lv_at hl 4 rfl) ?_
      refine lv_aload_n hx hb dX9_walks_209 rfl (lv_at hl 0 rfl) ?_
      refine gx_get (v := .ref (g.2.1 69)) (C := RX9) (T := TX9) (N := 44) hx hb hts hinX9 hown hK hG (ga_50 g _) rfl 28 (by decide) hw1 rfl rfl dX9_walks_210 ?_
      refine lv_iload hx hb dX9_walks_213 (lv_at hl 4 rfl) ?_
      obtain ⟨hg7, h⟩ := gd_some h
      refine gx_lald (f := v_next) hx hb hK hG (ga_69 g _) hg7 dX9_walks_215 ?_
      refine gx_last (σ' := (mkS σ [] [(3224, v_all)] [] [(69, v_next), (65, v_sizes), (68, (vp_updL v_walk (x4.toNatClampNeg) (v_next (x4.toNatClampNeg))))])) (f := v_walk) hx hb hK hG (ga_68 g _) hg7 ((gs_68 g _ _).trans (congrArg (g_cells g) (mk_d 2 rfl rfl))) dX9_walks_216 (fun H locs hG => ?_)
      refine lv_iinc (v := (x4 + (1 : Int32))) (lv' := [(4, .int (x4 + (1 : Int32))), (0, .ref (g.2.1 50)), (1, .int x1), (2, .int x2), (3, .int x3)]) hx hb dX9_walks_217 hl (k := 4) rfl (congrArg (fun z => x4 + z) (by decide)) (Nat.le_of_ble_eq_true rfl) rfl (fun ls hl => ?_)
      refine lv_goto (tgt := 194) hx hb dX9_walks_220 (by decide) ?_
      exact hk194 x1 x2 x3 (x4 + (1 : Int32)) v_all v_next v_sizes (vp_updL v_walk (x4.toNatClampNeg) (v_next (x4.toNatClampNeg))) _ _ _ (lv_sub hl [1, 2, 3, 4, 0] rfl) hG h
  have l194 : ∀ (k74 : Int32 → Int32 → Int32 → Int64 → (Nat → Int64) → (Nat → Int64) → (Nat → Int64) → Option (Int64 × Int64 × (Nat → Int64) × (Nat → Int64) × (Nat → Int64))) (hk74 : ∀ (x1 : Int32) (x2 : Int32) (x3 : Int32) (v_all : Int64) (v_next : Nat → Int64) (v_sizes : Nat → Int64) (v_walk : Nat → Int64) (H : Heap) (locs : List Loc) (ls : Array Slot), lv_has ls 7 [(0, .ref (g.2.1 50)), (1, .int x1), (2, .int x2), (3, .int x3)] → GW g s (mkS σ [] [(3224, v_all)] [] [(69, v_next), (65, v_sizes), (68, v_walk)]) H locs → k74 x1 x2 x3 v_all v_next v_sizes v_walk = some (r, w_all, w_next, w_sizes, w_walk) → Wg p l e 2 47 s m args below meth c g (some (.long r)) (mkS σ [] [(3224, w_all)] [] [(69, w_next), (65, w_sizes), (68, w_walk)]) H locs (F0 m 74 ls [])) (F : Nat) (x1 : Int32) (x2 : Int32) (x3 : Int32) (x4 : Int32) (v_all : Int64) (v_next : Nat → Int64) (v_sizes : Nat → Int64) (v_walk : Nat → Int64) (H : Heap) (locs : List Loc) (ls : Array Slot), lv_has ls 7 [(0, .ref (g.2.1 50)), (1, .int x1), (2, .int x2), (3, .int x3), (4, .int x4)] → GW g s (mkS σ [] [(3224, v_all)] [] [(69, v_next), (65, v_sizes), (68, v_walk)]) H locs → M_walks_l194 k74 (σ.1 3208) F x1 x2 x3 x4 v_all v_next v_sizes v_walk = some (r, w_all, w_next, w_sizes, w_walk) → Wg p l e 2 47 s m args below meth c g (some (.long r)) (mkS σ [] [(3224, w_all)] [] [(69, w_next), (65, w_sizes), (68, w_walk)]) H locs (F0 m 194 ls []) := by
    intro k74 hk74 F
    induction F with
    | zero => intro x1 x2 x3 x4 v_all v_next v_sizes v_walk H locs ls hl hG h; exact no_some h
    | succ F ih => intro x1 x2 x3 x4 v_all v_next v_sizes v_walk H locs ls hl hG h; exact n194 k74 hk74 (fun x1 x2 x3 x4 v_all v_next v_sizes v_walk => M_walks_l194 k74 (σ.1 3208) F x1 x2 x3 x4 v_all v_next v_sizes v_walk) ih x1 x2 x3 x4 v_all v_next v_sizes v_walk H locs ls hl hG h
  have n191 : ∀ (k74 : Int32 → Int32 → Int32 → Int64 → (Nat → Int64) → (Nat → Int64) → (Nat → Int64) → Option (Int64 × Int64 × (Nat → Int64) × (Nat → Int64) × (Nat → Int64))) (hk74 : ∀ (x1 : Int32) (x2 : Int32) (x3 : Int32) (v_all : Int64) (v_next : Nat → Int64) (v_sizes : Nat → Int64) (v_walk : Nat → Int64) (H : Heap) (locs : List Loc) (ls : Array Slot), lv_has ls 7 [(0, .ref (g.2.1 50)), (1, .int x1), (2, .int x2), (3, .int x3)] → GW g s (mkS σ [] [(3224, v_all)] [] [(69, v_next), (65, v_sizes), (68, v_walk)]) H locs → k74 x1 x2 x3 v_all v_next v_sizes v_walk = some (r, w_all, w_next, w_sizes, w_walk) → Wg p l e 2 47 s m args below meth c g (some (.long r)) (mkS σ [] [(3224, w_all)] [] [(69, w_next), (65, w_sizes), (68, w_walk)]) H locs (F0 m 74 ls [])) (x1 : Int32) (x2 : Int32) (x3 : Int32) (v_all : Int64) (v_next : Nat → Int64) (v_sizes : Nat → Int64) (v_walk : Nat → Int64) (H : Heap) (locs : List Loc) (ls : Array Slot), lv_has ls 7 [(0, .ref (g.2.1 50)), (1, .int x1), (2, .int x2), (3, .int x3)] → GW g s (mkS σ [] [(3224, v_all)] [] [(69, v_next), (65, v_sizes), (68, v_walk)]) H locs → M_walks_n191 k74 (σ.1 3208) x1 x2 x3 v_all v_next v_sizes v_walk = some (r, w_all, w_next, w_sizes, w_walk) → Wg p l e 2 47 s m args below meth c g (some (.long r)) (mkS σ [] [(3224, w_all)] [] [(69, w_next), (65, w_sizes), (68, w_walk)]) H locs (F0 m 191 ls []) := by
    intro k74 hk74 x1 x2 x3 v_all v_next v_sizes v_walk H locs ls hl hG h
    unfold M_walks_n191 at h
    refine lv_iconst (v := (0 : Int32)) hx hb dX9_walks_191 (by decide) ?_
    refine lv_istore (lv' := [(4, .int (0 : Int32)), (0, .ref (g.2.1 50)), (1, .int x1), (2, .int x2), (3, .int x3)]) hx hb dX9_walks_192 hl (Nat.le_of_ble_eq_true rfl) rfl (fun ls hl => ?_)
    exact l194 k74 hk74 FUEL x1 x2 x3 (0 : Int32) v_all v_next v_sizes v_walk _ _ _ (lv_sub hl [1, 2, 3, 4, 0] rfl) hG h
  have n82 : ∀ (k74 : Int32 → Int32 → Int32 → Int64 → (Nat → Int64) → (Nat → Int64) → (Nat → Int64) → Option (Int64 × Int64 × (Nat → Int64) × (Nat → Int64) × (Nat → Int64))) (hk74 : ∀ (x1 : Int32) (x2 : Int32) (x3 : Int32) (v_all : Int64) (v_next : Nat → Int64) (v_sizes : Nat → Int64) (v_walk : Nat → Int64) (H : Heap) (locs : List Loc) (ls : Array Slot), lv_has ls 7 [(0, .ref (g.2.1 50)), (1, .int x1), (2, .int x2), (3, .int x3)] → GW g s (mkS σ [] [(3224, v_all)] [] [(69, v_next), (65, v_sizes), (68, v_walk)]) H locs → k74 x1 x2 x3 v_all v_next v_sizes v_walk = some (r, w_all, w_next, w_sizes, w_walk) → Wg p l e 2 47 s m args below meth c g (some (.long r)) (mkS σ [] [(3224, w_all)] [] [(69, w_next), (65, w_sizes), (68, w_walk)]) H locs (F0 m 74 ls [])) (k82 : Int32 → Int32 → Int32 → Int32 → Int64 → (Nat → Int64) → (Nat → Int64) → (Nat → Int64) → Option (Int64 × Int64 × (Nat → Int64) × (Nat → Int64) × (Nat → Int64))) (hk82 : ∀ (x1 : Int32) (x2 : Int32) (x3 : Int32) (x4 : Int32) (v_all : Int64) (v_next : Nat → Int64) (v_sizes : Nat → Int64) (v_walk : Nat → Int64) (H : Heap) (locs : List Loc) (ls : Array Slot), lv_has ls 7 [(0, .ref (g.2.1 50)), (1, .int x1), (2, .int x2), (3, .int x3), (4, .int x4)] → GW g s (mkS σ [] [(3224, v_all)] [] [(69, v_next), (65, v_sizes), (68, v_walk)]) H locs → k82 x1 x2 x3 x4 v_all v_next v_sizes v_walk = some (r, w_all, w_next, w_sizes, w_walk) → Wg p l e 2 47 s m args below meth c g (some (.long r)) (mkS σ [] [(3224, w_all)] [] [(69, w_next), (65, w_sizes), (68, w_walk)]) H locs (F0 m 82 ls [])) (x1 : Int32) (x2 : Int32) (x3 : Int32) (x4 : Int32) (v_all : Int64) (v_next : Nat → Int64) (v_sizes : Nat → Int64) (v_walk : Nat → Int64) (H : Heap) (locs : List Loc) (ls : Array Slot), lv_has ls 7 [(0, .ref (g.2.1 50)), (1, .int x1), (2, .int x2), (3, .int x3), (4, .int x4)] → GW g s (mkS σ [] [(3224, v_all)] [] [(69, v_next), (65, v_sizes), (68, v_walk)]) H locs → M_walks_n82 k74 k82 (σ.1 3208) (σ.2.2.1 56) (σ.2.2.1 57) x1 x2 x3 x4 v_all v_next v_sizes v_walk = some (r, w_all, w_next, w_sizes, w_walk) → Wg p l e 2 47 s m args below meth c g (some (.long r)) (mkS σ [] [(3224, w_all)] [] [(69, w_next), (65, w_sizes), (68, w_walk)]) H locs (F0 m 82 ls []) := by
    intro k74 hk74 k82 hk82 x1 x2 x3 x4 v_all v_next v_sizes v_walk H locs ls hl hG h
    unfold M_walks_n82 at h
    refine lv_iload hx hb dX9_walks_82 (lv_at hl 4 rfl) ?_
    refine lv_aload_n hx hb dX9_walks_84 rfl (lv_at hl 0 rfl) ?_
    refine gx_get (v := .int (σ.1 3208)) (C := RX9) (T := TX9) (N := 44) hx hb hts hinX9 hown hK hG (ga_50 g _) rfl 8 (by decide) hw2 rfl rfl dX9_walks_85 ?_
    refine lv_icmp_gt (tgt := 191) hx hb dX9_walks_88 (by decide) (fun c8 => ?_) (fun c8 => ?_)
    · have h := ite_t c8 h
      exact n191 k74 hk74 x1 x2 x3 v_all v_next v_sizes v_walk _ _ _ (lv_sub hl [0, 1, 2, 3] rfl) hG h
    · have h := ite_f c8 h
      refine lv_aload_n hx hb dX9_walks_91 rfl (lv_at hl 0 rfl) ?_
      refine lv_iload hx hb dX9_walks_92 (lv_at hl 4 rfl) ?_
      obtain ⟨z9, hc10, h⟩ := bnd_some h
      refine gx_cV (σ' := (mkS σ [] [(3224, v_all)] [] [(69, v_next), (65, v_sizes), (68, v_walk)])) (r := (some (.int z9))) (rest := []) (As := [.int x4]) hS9 (c_M_a l g (mkS σ [] [(3224, v_all)] [] [(69, v_next), (65, v_sizes), (68, v_walk)]) x4 z9 hc10) rfl (cwV 1 hts gX9_walks_X9_a rfl rfl rfl (by decide +kernel) ⟨Nat.le_of_ble_eq_true rfl, Nat.le_of_ble_eq_true rfl⟩) hK hG (ga_50 g _) rfl rfl rfl hl.1 rfl (Nat.le_of_ble_eq_true rfl) dX9_walks_94 (fun H locs hG => ?_)
      refine W.eq (g2 := F0 m 97 ls [.int z9]) rfl ?_
      refine lv_i2l hx hb dX9_walks_97 rfl ?_
      refine lv_aload_n hx hb dX9_walks_98 rfl (lv_at hl 0 rfl) ?_
      refine gx_get (v := .ref (g.2.1 68)) (C := RX9) (T := TX9) (N := 44) hx hb hts hinX9 hown hK hG (ga_50 g _) rfl 27 (by decide) hw4 rfl rfl dX9_walks_99 ?_
      refine lv_iload hx hb dX9_walks_102 (lv_at hl 4 rfl) ?_
      obtain ⟨hg11, h⟩ := gd_some h
      refine gx_lald (f := v_walk) hx hb hK hG (ga_68 g _) hg11 dX9_walks_104 ?_
      refine lv_lmul hx hb dX9_walks_105 ?_
      refine lv_lstore (lv' := [(5, .long ((z9.toInt64) * (v_walk (x4.toNatClampNeg)))), (0, .ref (g.2.1 50)), (1, .int x1), (2, .int x2), (3, .int x3), (4, .int x4)]) hx hb dX9_walks_106 hl (Nat.le_of_ble_eq_true rfl) rfl (fun ls hl => ?_)
      refine lv_lload hx hb dX9_walks_108 (lv_at hl 0 rfl) ?_
      refine lv_iload hx hb dX9_walks_110 (lv_at hl 5 rfl) ?_
      refine lv_if_le (tgt := 136) hx hb dX9_walks_112 (by decide) (fun c12 => ?_) (fun c12 => ?_)
      · have h := ite_t c12 h
        refine lv_lconst (v := (0 : Int64)) hx hb dX9_walks_136 (by decide) ?_
        exact n137 k82 hk82 x1 x2 x3 x4 ((z9.toInt64) * (v_walk (x4.toNatClampNeg))) (0 : Int64) v_all v_next v_sizes v_walk _ _ _ (lv_sub hl [1, 2, 3, 4, 5] rfl) hG h
      · have h := ite_f c12 h
        refine lv_aload_n hx hb dX9_walks_115 rfl (lv_at hl 1 rfl) ?_
        refine gx_get (v := .ref (g.2.1 57)) (C := RX9) (T := TX9) (N := 44) hx hb hts hinX9 hown hK hG (ga_50 g _) rfl 10 (by decide) hw5 rfl rfl dX9_walks_116 ?_
        refine lv_iload hx hb dX9_walks_119 (lv_at hl 5 rfl) ?_
        refine gx_iald (f := (σ.2.2.1 57)) hx hb hK hG (ga_57 g _) hg11 dX9_walks_121 ?_
        refine lv_i2l hx hb dX9_walks_122 rfl ?_
        refine lv_aload_n hx hb dX9_walks_123 rfl (lv_at hl 1 rfl) ?_
        refine gx_get (v := .ref (g.2.1 68)) (C := RX9) (T := TX9) (N := 44) hx hb hts hinX9 hown hK hG (ga_50 g _) rfl 27 (by decide) hw4 rfl rfl dX9_walks_124 ?_
        refine lv_iload hx hb dX9_walks_127 (lv_at hl 5 rfl) ?_
        refine lv_iconst (v := (1 : Int32)) hx hb dX9_walks_129 (by decide) ?_
        refine lv_isub hx hb dX9_walks_130 ?_
        obtain ⟨hg13, h⟩ := gd_some h
        refine gx_lald (f := v_walk) hx hb hK hG (ga_68 g _) hg13 dX9_walks_131 ?_
        refine lv_lmul hx hb dX9_walks_132 ?_
        refine lv_goto (tgt := 137) hx hb dX9_walks_133 (by decide) ?_
        exact n137 k82 hk82 x1 x2 x3 x4 ((z9.toInt64) * (v_walk (x4.toNatClampNeg))) ((((σ.2.2.1 57) (x4.toNatClampNeg)).toInt64) * (v_walk ((x4 - (1 : Int32)).toNatClampNeg))) v_all v_next v_sizes v_walk _ _ _ (lv_sub hl [1, 2, 3, 4, 5] rfl) hG h
  have l82 : ∀ (k74 : Int32 → Int32 → Int32 → Int64 → (Nat → Int64) → (Nat → Int64) → (Nat → Int64) → Option (Int64 × Int64 × (Nat → Int64) × (Nat → Int64) × (Nat → Int64))) (hk74 : ∀ (x1 : Int32) (x2 : Int32) (x3 : Int32) (v_all : Int64) (v_next : Nat → Int64) (v_sizes : Nat → Int64) (v_walk : Nat → Int64) (H : Heap) (locs : List Loc) (ls : Array Slot), lv_has ls 7 [(0, .ref (g.2.1 50)), (1, .int x1), (2, .int x2), (3, .int x3)] → GW g s (mkS σ [] [(3224, v_all)] [] [(69, v_next), (65, v_sizes), (68, v_walk)]) H locs → k74 x1 x2 x3 v_all v_next v_sizes v_walk = some (r, w_all, w_next, w_sizes, w_walk) → Wg p l e 2 47 s m args below meth c g (some (.long r)) (mkS σ [] [(3224, w_all)] [] [(69, w_next), (65, w_sizes), (68, w_walk)]) H locs (F0 m 74 ls [])) (F : Nat) (x1 : Int32) (x2 : Int32) (x3 : Int32) (x4 : Int32) (v_all : Int64) (v_next : Nat → Int64) (v_sizes : Nat → Int64) (v_walk : Nat → Int64) (H : Heap) (locs : List Loc) (ls : Array Slot), lv_has ls 7 [(0, .ref (g.2.1 50)), (1, .int x1), (2, .int x2), (3, .int x3), (4, .int x4)] → GW g s (mkS σ [] [(3224, v_all)] [] [(69, v_next), (65, v_sizes), (68, v_walk)]) H locs → M_walks_l82 k74 (σ.1 3208) (σ.2.2.1 56) (σ.2.2.1 57) F x1 x2 x3 x4 v_all v_next v_sizes v_walk = some (r, w_all, w_next, w_sizes, w_walk) → Wg p l e 2 47 s m args below meth c g (some (.long r)) (mkS σ [] [(3224, w_all)] [] [(69, w_next), (65, w_sizes), (68, w_walk)]) H locs (F0 m 82 ls []) := by
    intro k74 hk74 F
    induction F with
    | zero => intro x1 x2 x3 x4 v_all v_next v_sizes v_walk H locs ls hl hG h; exact no_some h
    | succ F ih => intro x1 x2 x3 x4 v_all v_next v_sizes v_walk H locs ls hl hG h; exact n82 k74 hk74 (fun x1 x2 x3 x4 v_all v_next v_sizes v_walk => M_walks_l82 k74 (σ.1 3208) (σ.2.2.1 56) (σ.2.2.1 57) F x1 x2 x3 x4 v_all v_next v_sizes v_walk) ih x1 x2 x3 x4 v_all v_next v_sizes v_walk H locs ls hl hG h
  have n229 : ∀ (x1 : Int32) (v_all : Int64) (v_next : Nat → Int64) (v_sizes : Nat → Int64) (v_walk : Nat → Int64) (H : Heap) (locs : List Loc) (ls : Array Slot), lv_has ls 7 [(0, .ref (g.2.1 50)), (1, .int x1)] → GW g s (mkS σ [] [(3224, v_all)] [] [(69, v_next), (65, v_sizes), (68, v_walk)]) H locs → M_walks_n229 x1 v_all v_next v_sizes v_walk = some (r, w_all, w_next, w_sizes, w_walk) → Wg p l e 2 47 s m args below meth c g (some (.long r)) (mkS σ [] [(3224, w_all)] [] [(69, w_next), (65, w_sizes), (68, w_walk)]) H locs (F0 m 229 ls []) := by
    intro x1 v_all v_next v_sizes v_walk H locs ls hl hG h
    unfold M_walks_n229 at h
    refine lv_aload_n hx hb dX9_walks_229 rfl (lv_at hl 0 rfl) ?_
    refine gx_get (v := .ref (g.2.1 68)) (C := RX9) (T := TX9) (N := 44) hx hb hts hinX9 hown hK hG (ga_50 g _) rfl 27 (by decide) hw4 rfl rfl dX9_walks_230 ?_
    refine lv_iload_n hx hb dX9_walks_233 rfl (lv_at hl 1 rfl) ?_
    obtain ⟨hg14, h⟩ := gd_some h
    refine gx_lald (f := v_walk) hx hb hK hG (ga_68 g _) hg14 dX9_walks_234 ?_
    cases h
    exact gx_lret hx hb hr hlocks hG dX9_walks_235
  have n74 : ∀ (k74 : Int32 → Int32 → Int32 → Int64 → (Nat → Int64) → (Nat → Int64) → (Nat → Int64) → Option (Int64 × Int64 × (Nat → Int64) × (Nat → Int64) × (Nat → Int64))) (hk74 : ∀ (x1 : Int32) (x2 : Int32) (x3 : Int32) (v_all : Int64) (v_next : Nat → Int64) (v_sizes : Nat → Int64) (v_walk : Nat → Int64) (H : Heap) (locs : List Loc) (ls : Array Slot), lv_has ls 7 [(0, .ref (g.2.1 50)), (1, .int x1), (2, .int x2), (3, .int x3)] → GW g s (mkS σ [] [(3224, v_all)] [] [(69, v_next), (65, v_sizes), (68, v_walk)]) H locs → k74 x1 x2 x3 v_all v_next v_sizes v_walk = some (r, w_all, w_next, w_sizes, w_walk) → Wg p l e 2 47 s m args below meth c g (some (.long r)) (mkS σ [] [(3224, w_all)] [] [(69, w_next), (65, w_sizes), (68, w_walk)]) H locs (F0 m 74 ls [])) (x1 : Int32) (x2 : Int32) (x3 : Int32) (v_all : Int64) (v_next : Nat → Int64) (v_sizes : Nat → Int64) (v_walk : Nat → Int64) (H : Heap) (locs : List Loc) (ls : Array Slot), lv_has ls 7 [(0, .ref (g.2.1 50)), (1, .int x1), (2, .int x2), (3, .int x3)] → GW g s (mkS σ [] [(3224, v_all)] [] [(69, v_next), (65, v_sizes), (68, v_walk)]) H locs → M_walks_n74 k74 (σ.1 3208) (σ.2.2.1 56) (σ.2.2.1 57) x1 x2 x3 v_all v_next v_sizes v_walk = some (r, w_all, w_next, w_sizes, w_walk) → Wg p l e 2 47 s m args below meth c g (some (.long r)) (mkS σ [] [(3224, w_all)] [] [(69, w_next), (65, w_sizes), (68, w_walk)]) H locs (F0 m 74 ls []) := by
    intro k74 hk74 x1 x2 x3 v_all v_next v_sizes v_walk H locs ls hl hG h
    unfold M_walks_n74 at h
    refine lv_iload_n hx hb dX9_walks_74 rfl (lv_at hl 3 rfl) ?_
    refine lv_iload_n hx hb dX9_walks_75 rfl (lv_at hl 2 rfl) ?_
    refine lv_icmp_ge (tgt := 229) hx hb dX9_walks_76 (by decide) (fun c15 => ?_) (fun c15 => ?_)
    · have h := ite_t c15 h
      exact n229 x1 v_all v_next v_sizes v_walk _ _ _ (lv_sub hl [0, 1] rfl) hG h
    · have h := ite_f c15 h
      refine lv_iconst (v := (0 : Int32)) hx hb dX9_walks_79 (by decide) ?_
      refine lv_istore (lv' := [(4, .int (0 : Int32)), (0, .ref (g.2.1 50)), (1, .int x1), (2, .int x2), (3, .int x3)]) hx hb dX9_walks_80 hl (Nat.le_of_ble_eq_true rfl) rfl (fun ls hl => ?_)
      exact l82 k74 hk74 FUEL x1 x2 x3 (0 : Int32) v_all v_next v_sizes v_walk _ _ _ (lv_sub hl [1, 2, 3, 4, 0] rfl) hG h
  have l74 : ∀  (F : Nat) (x1 : Int32) (x2 : Int32) (x3 : Int32) (v_all : Int64) (v_next : Nat → Int64) (v_sizes : Nat → Int64) (v_walk : Nat → Int64) (H : Heap) (locs : List Loc) (ls : Array Slot), lv_has ls 7 [(0, .ref (g.2.1 50)), (1, .int x1), (2, .int x2), (3, .int x3)] → GW g s (mkS σ [] [(3224, v_all)] [] [(69, v_next), (65, v_sizes), (68, v_walk)]) H locs → M_walks_l74 (σ.1 3208) (σ.2.2.1 56) (σ.2.2.1 57) F x1 x2 x3 v_all v_next v_sizes v_walk = some (r, w_all, w_next, w_sizes, w_walk) → Wg p l e 2 47 s m args below meth c g (some (.long r)) (mkS σ [] [(3224, w_all)] [] [(69, w_next), (65, w_sizes), (68, w_walk)]) H locs (F0 m 74 ls []) := by
    intro F
    induction F with
    | zero => intro x1 x2 x3 v_all v_next v_sizes v_walk H locs ls hl hG h; exact no_some h
    | succ F ih => intro x1 x2 x3 v_all v_next v_sizes v_walk H locs ls hl hG h; exact n74 (fun x1 x2 x3 v_all v_next v_sizes v_walk => M_walks_l74 (σ.1 3208) (σ.2.2.1 56) (σ.2.2.1 57) F x1 x2 x3 v_all v_next v_sizes v_walk) ih x1 x2 x3 v_all v_next v_sizes v_walk H locs ls hl hG h
  have n72 : ∀ (x1 : Int32) (x2 : Int32) (v_all : Int64) (v_next : Nat → Int64) (v_sizes : Nat → Int64) (v_walk : Nat → Int64) (H : Heap) (locs : List Loc) (ls : Array Slot), lv_has ls 7 [(0, .ref (g.2.1 50)), (1, .int x1), (2, .int x2)] → GW g s (mkS σ [] [(3224, v_all)] [] [(69, v_next), (65, v_sizes), (68, v_walk)]) H locs → M_walks_n72 (σ.1 3208) (σ.2.2.1 56) (σ.2.2.1 57) x1 x2 v_all v_next v_sizes v_walk = some (r, w_all, w_next, w_sizes, w_walk) → Wg p l e 2 47 s m args below meth c g (some (.long r)) (mkS σ [] [(3224, w_all)] [] [(69, w_next), (65, w_sizes), (68, w_walk)]) H locs (F0 m 72 ls []) := by
    intro x1 x2 v_all v_next v_sizes v_walk H locs ls hl hG h
    unfold M_walks_n72 at h
    refine lv_iconst (v := (0 : Int32)) hx hb dX9_walks_72 (by decide) ?_
    refine lv_istore_n (lv' := [(3, .int (0 : Int32)), (0, .ref (g.2.1 50)), (1, .int x1), (2, .int x2)]) hx hb dX9_walks_73 rfl hl (Nat.le_of_ble_eq_true rfl) rfl (fun ls hl => ?_)
    exact l74 FUEL x1 x2 (0 : Int32) v_all v_next v_sizes v_walk _ _ _ (lv_sub hl [1, 2, 3, 0] rfl) hG h
  have n43 : ∀ (k43 : Int32 → Int32 → Int32 → Int64 → (Nat → Int64) → (Nat → Int64) → (Nat → Int64) → Option (Int64 × Int64 × (Nat → Int64) × (Nat → Int64) × (Nat → Int64))) (hk43 : ∀ (x1 : Int32) (x2 : Int32) (x3 : Int32) (v_all : Int64) (v_next : Nat → Int64) (v_sizes : Nat → Int64) (v_walk : Nat → Int64) (H : Heap) (locs : List Loc) (ls : Array Slot), lv_has ls 7 [(0, .ref (g.2.1 50)), (1, .int x1), (2, .int x2), (3, .int x3)] → GW g s (mkS σ [] [(3224, v_all)] [] [(69, v_next), (65, v_sizes), (68, v_walk)]) H locs → k43 x1 x2 x3 v_all v_next v_sizes v_walk = some (r, w_all, w_next, w_sizes, w_walk) → Wg p l e 2 47 s m args below meth c g (some (.long r)) (mkS σ [] [(3224, w_all)] [] [(69, w_next), (65, w_sizes), (68, w_walk)]) H locs (F0 m 43 ls [])) (x1 : Int32) (x2 : Int32) (x3 : Int32) (v_all : Int64) (v_next : Nat → Int64) (v_sizes : Nat → Int64) (v_walk : Nat → Int64) (H : Heap) (locs : List Loc) (ls : Array Slot), lv_has ls 7 [(0, .ref (g.2.1 50)), (1, .int x1), (2, .int x2), (3, .int x3)] → GW g s (mkS σ [] [(3224, v_all)] [] [(69, v_next), (65, v_sizes), (68, v_walk)]) H locs → M_walks_n43 k43 (σ.1 3208) (σ.2.2.1 56) (σ.2.2.1 57) x1 x2 x3 v_all v_next v_sizes v_walk = some (r, w_all, w_next, w_sizes, w_walk) → Wg p l e 2 47 s m args below meth c g (some (.long r)) (mkS σ [] [(3224, w_all)] [] [(69, w_next), (65, w_sizes), (68, w_walk)]) H locs (F0 m 43 ls []) := by
    intro k43 hk43 x1 x2 x3 v_all v_next v_sizes v_walk H locs ls hl hG h
    unfold M_walks_n43 at h
    refine lv_iload_n hx hb dX9_walks_43 rfl (lv_at hl 3 rfl) ?_
    refine lv_aload_n hx hb dX9_walks_44 rfl (lv_at hl 0 rfl) ?_
    refine gx_get (v := .int (σ.1 3208)) (C := RX9) (T := TX9) (N := 44) hx hb hts hinX9 hown hK hG (ga_50 g _) rfl 8 (by decide) hw2 rfl rfl dX9_walks_45 ?_
    refine lv_icmp_gt (tgt := 72) hx hb dX9_walks_48 (by decide) (fun c16 => ?_) (fun c16 => ?_)
    · have h := ite_t c16 h
      exact n72 x1 x2 v_all v_next v_sizes v_walk _ _ _ (lv_sub hl [0, 1, 2] rfl) hG h
    · have h := ite_f c16 h
      refine lv_aload_n hx hb dX9_walks_51 rfl (lv_at hl 0 rfl) ?_
      refine gx_get (v := .ref (g.2.1 68)) (C := RX9) (T := TX9) (N := 44) hx hb hts hinX9 hown hK hG (ga_50 g _) rfl 27 (by decide) hw4 rfl rfl dX9_walks_52 ?_
      refine lv_iload_n hx hb dX9_walks_55 rfl (lv_at hl 3 rfl) ?_
      refine lv_iload_n hx hb dX9_walks_56 rfl (lv_at hl 3 rfl) ?_
      refine lv_if_ne (tgt := 64) hx hb dX9_walks_57 (by decide) (fun c17 => ?_) (fun c17 => ?_)
      · have h := ite_f c17 h
        refine lv_lconst (v := (0 : Int64)) hx hb dX9_walks_64 (by decide) ?_
        exact n65 k43 hk43 x1 x2 x3 x3 (0 : Int64) v_all v_next v_sizes v_walk _ _ _ (lv_sub hl [0, 1, 2, 3] rfl) hG h
      · have h := ite_t c17 h
        refine lv_lconst (v := (1 : Int64)) hx hb dX9_walks_60 (by decide) ?_
        refine lv_goto (tgt := 65) hx hb dX9_walks_61 (by decide) ?_
        exact n65 k43 hk43 x1 x2 x3 x3 (1 : Int64) v_all v_next v_sizes v_walk _ _ _ (lv_sub hl [0, 1, 2, 3] rfl) hG h
  have l43 : ∀  (F : Nat) (x1 : Int32) (x2 : Int32) (x3 : Int32) (v_all : Int64) (v_next : Nat → Int64) (v_sizes : Nat → Int64) (v_walk : Nat → Int64) (H : Heap) (locs : List Loc) (ls : Array Slot), lv_has ls 7 [(0, .ref (g.2.1 50)), (1, .int x1), (2, .int x2), (3, .int x3)] → GW g s (mkS σ [] [(3224, v_all)] [] [(69, v_next), (65, v_sizes), (68, v_walk)]) H locs → M_walks_l43 (σ.1 3208) (σ.2.2.1 56) (σ.2.2.1 57) F x1 x2 x3 v_all v_next v_sizes v_walk = some (r, w_all, w_next, w_sizes, w_walk) → Wg p l e 2 47 s m args below meth c g (some (.long r)) (mkS σ [] [(3224, w_all)] [] [(69, w_next), (65, w_sizes), (68, w_walk)]) H locs (F0 m 43 ls []) := by
    intro F
    induction F with
    | zero => intro x1 x2 x3 v_all v_next v_sizes v_walk H locs ls hl hG h; exact no_some h
    | succ F ih => intro x1 x2 x3 v_all v_next v_sizes v_walk H locs ls hl hG h; exact n43 (fun x1 x2 x3 v_all v_next v_sizes v_walk => M_walks_l43 (σ.1 3208) (σ.2.2.1 56) (σ.2.2.1 57) F x1 x2 x3 v_all v_next v_sizes v_walk) ih x1 x2 x3 v_all v_next v_sizes v_walk H locs ls hl hG h
  refine lv_iload_n hx hb dX9_walks_0 rfl (lv_at hl 1 rfl) ?_
  refine lv_i2l hx hb dX9_walks_1 rfl ?_
  refine lv_lconst (v := (0 : Int64)) hx hb dX9_walks_2 (by decide) ?_
  refine lv_aload_n hx hb dX9_walks_3 rfl (lv_at hl 0 rfl) ?_
  refine gx_get (v := .int (σ.1 3208)) (C := RX9) (T := TX9) (N := 44) hx hb hts hinX9 hown hK hG (ga_50 g _) rfl 8 (by decide) hw2 rfl rfl dX9_walks_4 ?_
  refine lv_i2l hx hb dX9_walks_7 rfl ?_
  obtain ⟨z18, hc19, h⟩ := bnd_some h
  refine gx_cS (σ' := (mkS σ [] [(3224, (σ.2.1 3224))] [] [(69, (σ.2.2.2 69)), (65, (σ.2.2.2 65)), (68, (σ.2.2.2 68))])) (r := (some (.int z18))) (rest := []) (As := [.long (x1.toInt64), .long (0 : Int64), .long ((σ.1 3208).toInt64)]) hS9 (c_M_in l g (mkS σ [] [(3224, (σ.2.1 3224))] [] [(69, (σ.2.2.2 69)), (65, (σ.2.2.2 65)), (68, (σ.2.2.2 68))]) (x1.toInt64) (0 : Int64) ((σ.1 3208).toInt64) z18 hc19) rfl (va_cwS 3 hts gX9_walks_X9_in rfl rfl rfl (by decide +kernel) ⟨Nat.le_of_ble_eq_true rfl, Nat.le_of_ble_eq_true rfl⟩) hK hG rfl hl.1 rfl (Nat.le_of_ble_eq_true rfl) dX9_walks_8 (fun H locs hG => ?_)
  refine W.eq (g2 := F0 m 11 ls [.int z18]) rfl ?_
  refine lv_if_eq (tgt := 26) hx hb dX9_walks_11 (by decide) (fun c20 => ?_) (fun c20 => ?_)
  · have h := ite_t c20 h
    exact n26 (σ.2.1 3224) (σ.2.2.2 69) (σ.2.2.2 65) (σ.2.2.2 68) _ _ _ (lv_sub hl [] rfl) hG h
  · have h := ite_f c20 h
    refine lv_iload_n hx hb dX9_walks_14 rfl (lv_at hl 2 rfl) ?_
    refine lv_i2l hx hb dX9_walks_15 rfl ?_
    refine lv_lconst (v := (0 : Int64)) hx hb dX9_walks_16 (by decide) ?_
    refine lv_ldc2 hx hb hown hw6 dX9_walks_17 ?_
    obtain ⟨z21, hc22, h⟩ := bnd_some h
    refine gx_cS (σ' := (mkS σ [] [(3224, (σ.2.1 3224))] [] [(69, (σ.2.2.2 69)), (65, (σ.2.2.2 65)), (68, (σ.2.2.2 68))])) (r := (some (.int z21))) (rest := []) (As := [.long (x2.toInt64), .long (0 : Int64), .long (8 : Int64)]) hS9 (c_M_in l g (mkS σ [] [(3224, (σ.2.1 3224))] [] [(69, (σ.2.2.2 69)), (65, (σ.2.2.2 65)), (68, (σ.2.2.2 68))]) (x2.toInt64) (0 : Int64) (8 : Int64) z21 hc22) rfl (va_cwS 3 hts gX9_walks_X9_in rfl rfl rfl (by decide +kernel) ⟨Nat.le_of_ble_eq_true rfl, Nat.le_of_ble_eq_true rfl⟩) hK hG rfl hl.1 rfl (Nat.le_of_ble_eq_true rfl) dX9_walks_20 (fun H locs hG => ?_)
    refine W.eq (g2 := F0 m 23 ls [.int z21]) rfl ?_
    refine lv_if_ne (tgt := 30) hx hb dX9_walks_23 (by decide) (fun c23 => ?_) (fun c23 => ?_)
    · have h := ite_f c23 h
      refine lv_aload_n hx hb dX9_walks_30 rfl (lv_at hl 0 rfl) ?_
      obtain ⟨z24, hc25, h⟩ := bnd_some h
      refine gx_cV (σ' := (mkS σ [] [(3224, z24.2.1)] [] [(69, (σ.2.2.2 69)), (65, z24.2.2), (68, (σ.2.2.2 68))])) (r := (some (.int z24.1))) (rest := []) (As := []) hS9 (c_M_firstLaws l g (mkS σ [] [(3224, (σ.2.1 3224))] [] [(69, (σ.2.2.2 69)), (65, (σ.2.2.2 65)), (68, (σ.2.2.2 68))]) z24.1 z24.2.1 z24.2.2 hc25) (mk_mk rfl rfl rfl rfl) (cwV 0 hts gX9_walks_X9_firstLaws rfl rfl rfl (by decide +kernel) ⟨Nat.le_of_ble_eq_true rfl, Nat.le_of_ble_eq_true rfl⟩) hK hG (ga_50 g _) rfl rfl rfl hl.1 rfl (Nat.le_of_ble_eq_true rfl) dX9_walks_31 (fun H locs hG => ?_)
      refine W.eq (g2 := F0 m 34 ls [.int z24.1]) rfl ?_
      refine lv_if_le (tgt := 41) hx hb dX9_walks_34 (by decide) (fun c26 => ?_) (fun c26 => ?_)
      · have h := ite_t c26 h
        refine lv_iconst (v := (0 : Int32)) hx hb dX9_walks_41 (by decide) ?_
        refine lv_istore_n (lv' := [(3, .int (0 : Int32)), (0, .ref (g.2.1 50)), (1, .int x1), (2, .int x2)]) hx hb dX9_walks_42 rfl hl (Nat.le_of_ble_eq_true rfl) rfl (fun ls hl => ?_)
        exact l43 FUEL x1 x2 (0 : Int32) z24.2.1 (σ.2.2.2 69) z24.2.2 (σ.2.2.2 68) _ _ _ (lv_sub hl [1, 2, 3, 0] rfl) hG h
      · have h := ite_f c26 h
        refine lv_ldc2 hx hb hown hw7 dX9_walks_37 ?_
        cases h
        exact gx_lret hx hb hr hlocks hG dX9_walks_40
    · have h := ite_t c23 h
      exact n26 (σ.2.1 3224) (σ.2.2.2 69) (σ.2.2.2 65) (σ.2.2.2 68) _ _ _ (lv_sub hl [] rfl) hG h

set_option maxHeartbeats 4000000 in
set_option maxRecDepth 100000 in
theorem c_M_way (l : Launch) (g : GC) (σ : St) (x1 : Int32) (x2 : Int32) (r : Int32) (w_far : Int32) (w_heaps : Int32) (w_isMeasured : Int32) (w_wayOf : Nat → Int32) (h : M_way x1 x2 (σ.1 3214) (σ.1 3215) (σ.1 3212) (σ.1 3203) (σ.2.2.1 54) (σ.2.2.1 59) = some (r, w_far, w_heaps, w_isMeasured, w_wayOf)) : Cn l g yX9_way wsX9_way 2 47 [.ref (g.2.1 50), .int x1, .int x2] σ (some (.int r)) (mkS σ [(3214, w_far), (3215, w_heaps), (3212, w_isMeasured)] [] [(59, w_wayOf)] []) := by
  unfold Cn
  refine Met.ofW (cc := cX9_way) (maxL := 3) (ret := (some .int)) (by decide) rfl ?_
  intro p e s m args below meth c s₁ B hml hv
  obtain ⟨hargs, hP0, hK⟩ := hv
  have hx := B.exec
  have hb := B.bytes
  have hr := B.returns
  have hts := atoms_spec (ws := wsX9_way) B.pre
  have hown : s.vm.findClass RX9 = some m.cls := findClass_of_methodNamed B.named
  have hlocks := B.notSynchronized
  have hS9 : CallFix p m c cX9_way 3 s args wsX9_way RX9 := ⟨hx, hb, hml, hown, hts⟩
  have hinX9 : ∀ w ∈ wsX90, w ∈ wsX9_way := fun w h => List.mem_cons_of_mem _ (List.mem_append_right _ (h))
  have hw0 := hts (.fieldLink RX9 39 "LikeNetsModel" "wayOf" "[I") (List.mem_of_getElem? (i := 1) rfl)
  have hf9 : entryFrame m args 3 = _ := (congrArg (fun a => entryFrame m a 3) hargs).trans (lg_entry_eq m [.ref (g.2.1 50), .int x1, .int x2] 3)
  show Wg p l e 2 47 s m args below meth c g (some (.int r)) (mkS σ [(3214, w_far), (3215, w_heaps), (3212, w_isMeasured)] [] [(59, w_wayOf)] []) s.heap [] (entryFrame m args 3)
  rw [hf9]
  have hl := lv_entry ([.ref (g.2.1 50), .int x1, .int x2]) (n := 3) (Nat.le_of_ble_eq_true rfl)
  generalize (lg_sl ([.ref (g.2.1 50), .int x1, .int x2]) ++ List.replicate (3 - (lg_sl ([.ref (g.2.1 50), .int x1, .int x2])).length) Slot.unset).toArray = ls at hl ⊢
  have hl : lv_has ls 3 [(0, .ref (g.2.1 50)), (1, .int x1), (2, .int x2)] := hl
  have hG : GW g s σ s.heap [] := ⟨hP0, va_S.rf⟩
  have hG : GW g s (mkS σ [(3214, (σ.1 3214)), (3215, (σ.1 3215)), (3212, (σ.1 3212))] [] [(59, (σ.2.2.1 59))] []) s.heap [] := GW_self [3214, 3215, 3212] [] [59] [] hG
  unfold M_way at h
  have n16 : ∀ (v_far : Int32) (v_heaps : Int32) (v_isMeasured : Int32) (v_wayOf : Nat → Int32) (H : Heap) (locs : List Loc) (ls : Array Slot), lv_has ls 3 [] → GW g s (mkS σ [(3214, v_far), (3215, v_heaps), (3212, v_isMeasured)] [] [(59, v_wayOf)] []) H locs → M_way_n16 v_far v_heaps v_isMeasured v_wayOf = some (r, w_far, w_heaps, w_isMeasured, w_wayOf) → Wg p l e 2 47 s m args below meth c g (some (.int r)) (mkS σ [(3214, w_far), (3215, w_heaps), (3212, w_isMeasured)] [] [(59, w_wayOf)] []) H locs (F0 m 16 ls []) := by
    intro v_far v_heaps v_isMeasured v_wayOf H locs ls hl hG h
    unfold M_way_n16 at h
    refine lv_iconst (v := (-1 : Int32)) hx hb dX9_way_16 (by decide) ?_
    cases h
    exact gx_iret hx hb hr hlocks hG dX9_way_17
  have n54 : ∀ (t0 : Int32) (v_far : Int32) (v_heaps : Int32) (v_isMeasured : Int32) (v_wayOf : Nat → Int32) (H : Heap) (locs : List Loc) (ls : Array Slot), lv_has ls 3 [] → GW g s (mkS σ [(3214, v_far), (3215, v_heaps), (3212, v_isMeasured)] [] [(59, v_wayOf)] []) H locs → M_way_n54 t0 v_far v_heaps v_isMeasured v_wayOf = some (r, w_far, w_heaps, w_isMeasured, w_wayOf) → Wg p l e 2 47 s m args below meth c g (some (.int r)) (mkS σ [(3214, w_far), (3215, w_heaps), (3212, w_isMeasured)] [] [(59, w_wayOf)] []) H locs (F0 m 54 ls [.int t0]) := by
    intro t0 v_far v_heaps v_isMeasured v_wayOf H locs ls hl hG h
    unfold M_way_n54 at h
    cases h
    exact gx_iret hx hb hr hlocks hG dX9_way_54
  refine lv_aload_n hx hb dX9_way_0 rfl (lv_at hl 0 rfl) ?_
  refine lv_iload_n hx hb dX9_way_1 rfl (lv_at hl 1 rfl) ?_
  obtain ⟨z1, hc2, h⟩ := bnd_some h
  refine gx_cV (σ' := (mkS σ [(3214, (σ.1 3214)), (3215, (σ.1 3215)), (3212, (σ.1 3212))] [] [(59, (σ.2.2.1 59))] [])) (r := (some (.int z1))) (rest := []) (As := [.int x1]) hS9 (c_M_isPost l g (mkS σ [(3214, (σ.1 3214)), (3215, (σ.1 3215)), (3212, (σ.1 3212))] [] [(59, (σ.2.2.1 59))] []) x1 z1 hc2) rfl (cwV 1 hts gX9_way_X9_isPost rfl rfl rfl (by decide +kernel) ⟨Nat.le_of_ble_eq_true rfl, Nat.le_of_ble_eq_true rfl⟩) hK hG (ga_50 g _) rfl rfl rfl hl.1 rfl (Nat.le_of_ble_eq_true rfl) dX9_way_2 (fun H locs hG => ?_)
  refine W.eq (g2 := F0 m 5 ls [.int z1]) rfl ?_
  refine lv_if_eq (tgt := 16) hx hb dX9_way_5 (by decide) (fun c3 => ?_) (fun c3 => ?_)
  · have h := ite_t c3 h
    exact n16 (σ.1 3214) (σ.1 3215) (σ.1 3212) (σ.2.2.1 59) _ _ _ (lv_sub hl [] rfl) hG h
  · have h := ite_f c3 h
    refine lv_aload_n hx hb dX9_way_8 rfl (lv_at hl 0 rfl) ?_
    refine lv_iload_n hx hb dX9_way_9 rfl (lv_at hl 2 rfl) ?_
    obtain ⟨z4, hc5, h⟩ := bnd_some h
    refine gx_cV (σ' := (mkS σ [(3214, (σ.1 3214)), (3215, (σ.1 3215)), (3212, (σ.1 3212))] [] [(59, (σ.2.2.1 59))] [])) (r := (some (.int z4))) (rest := []) (As := [.int x2]) hS9 (c_M_isPost l g (mkS σ [(3214, (σ.1 3214)), (3215, (σ.1 3215)), (3212, (σ.1 3212))] [] [(59, (σ.2.2.1 59))] []) x2 z4 hc5) rfl (cwV 1 hts gX9_way_X9_isPost rfl rfl rfl (by decide +kernel) ⟨Nat.le_of_ble_eq_true rfl, Nat.le_of_ble_eq_true rfl⟩) hK hG (ga_50 g _) rfl rfl rfl hl.1 rfl (Nat.le_of_ble_eq_true rfl) dX9_way_10 (fun H locs hG => ?_)
    refine W.eq (g2 := F0 m 13 ls [.int z4]) rfl ?_
    refine lv_if_ne (tgt := 18) hx hb dX9_way_13 (by decide) (fun c6 => ?_) (fun c6 => ?_)
    · have h := ite_f c6 h
      refine lv_aload_n hx hb dX9_way_18 rfl (lv_at hl 0 rfl) ?_
      obtain ⟨z7, hc8, h⟩ := bnd_some h
      refine gx_cV (σ' := (mkS σ [(3214, z7.1), (3215, z7.2.1), (3212, z7.2.2.1)] [] [(59, z7.2.2.2)] [])) (r := none) (rest := []) (As := []) hS9 (c_M_measure l g (mkS σ [(3214, (σ.1 3214)), (3215, (σ.1 3215)), (3212, (σ.1 3212))] [] [(59, (σ.2.2.1 59))] []) z7.1 z7.2.1 z7.2.2.1 z7.2.2.2 hc8) (mk_mk rfl rfl rfl rfl) (cwV 0 hts gX9_way_X9_measure rfl rfl rfl (by decide +kernel) ⟨Nat.le_of_ble_eq_true rfl, Nat.le_of_ble_eq_true rfl⟩) hK hG (ga_50 g _) rfl rfl rfl hl.1 rfl (Nat.le_of_ble_eq_true rfl) dX9_way_19 (fun H locs hG => ?_)
      refine W.eq (g2 := F0 m 22 ls []) rfl ?_
      refine lv_aload_n hx hb dX9_way_22 rfl (lv_at hl 0 rfl) ?_
      refine gx_get (v := .ref (g.2.1 59)) (C := RX9) (T := TX9) (N := 44) hx hb hts hinX9 hown hK hG (ga_50 g _) rfl 13 (by decide) hw0 rfl rfl dX9_way_23 ?_
      refine lv_bipush (v := (32 : Int32)) hx hb dX9_way_26 (by decide) ?_
      refine lv_iload_n hx hb dX9_way_28 rfl (lv_at hl 1 rfl) ?_
      refine lv_imul hx hb dX9_way_29 ?_
      refine lv_iload_n hx hb dX9_way_30 rfl (lv_at hl 2 rfl) ?_
      refine lv_iadd hx hb dX9_way_31 ?_
      obtain ⟨hg9, h⟩ := gd_some h
      refine gx_iald (f := z7.2.2.2) hx hb hK hG (ga_59 g _) hg9 dX9_way_32 ?_
      refine lv_bipush (v := (99 : Int32)) hx hb dX9_way_33 (by decide) ?_
      refine lv_icmp_ne (tgt := 43) hx hb dX9_way_35 (by decide) (fun c10 => ?_) (fun c10 => ?_)
      · have h := ite_f c10 h
        refine lv_aload_n hx hb dX9_way_43 rfl (lv_at hl 0 rfl) ?_
        refine gx_get (v := .ref (g.2.1 59)) (C := RX9) (T := TX9) (N := 44) hx hb hts hinX9 hown hK hG (ga_50 g _) rfl 13 (by decide) hw0 rfl rfl dX9_way_44 ?_
        refine lv_bipush (v := (32 : Int32)) hx hb dX9_way_47 (by decide) ?_
        refine lv_iload_n hx hb dX9_way_49 rfl (lv_at hl 1 rfl) ?_
        refine lv_imul hx hb dX9_way_50 ?_
        refine lv_iload_n hx hb dX9_way_51 rfl (lv_at hl 2 rfl) ?_
        refine lv_iadd hx hb dX9_way_52 ?_
        refine gx_iald (f := z7.2.2.2) hx hb hK hG (ga_59 g _) hg9 dX9_way_53 ?_
        exact n54 (z7.2.2.2 ((((32 : Int32) * x1) + x2).toNatClampNeg)) z7.1 z7.2.1 z7.2.2.1 z7.2.2.2 _ _ _ (lv_sub hl [] rfl) hG h
      · have h := ite_t c10 h
        refine lv_bipush (v := (-8 : Int32)) hx hb dX9_way_38 (by decide) ?_
        refine lv_goto (tgt := 54) hx hb dX9_way_40 (by decide) ?_
        exact n54 (-8 : Int32) z7.1 z7.2.1 z7.2.2.1 z7.2.2.2 _ _ _ (lv_sub hl [] rfl) hG h
    · have h := ite_t c6 h
      exact n16 (σ.1 3214) (σ.1 3215) (σ.1 3212) (σ.2.2.1 59) _ _ _ (lv_sub hl [] rfl) hG h

