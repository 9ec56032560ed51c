set_option maxHeartbeats 4000000 in
set_option maxRecDepth 100000 in
theorem c_Pr_tellApart (l : Launch) (g : GC) (σ : St) (w_count : Int32) (w_ready : Int32) (w_size : Int32) (w_firsts : Nat → Int32) (w_heads : Nat → Int32) (w_keys : Nat → Int32) (w_nexts : Nat → Int32) (w_otherKeys : Nat → Int32) (w_parted : Nat → Int32) (w_sorts : Nat → Int32) (w_sums : Nat → Int64) (h : Pr_tellApart (σ.1 2634) (σ.1 641) (σ.1 2632) (σ.1 2633) (σ.2.2.1 44) (σ.2.2.1 45) (σ.2.2.1 48) (σ.2.2.1 46) (σ.2.2.1 49) (σ.2.2.1 11) (σ.2.2.1 43) (σ.2.2.1 42) (σ.2.2.2 47) = some (w_count, w_ready, w_size, w_firsts, w_heads, w_keys, w_nexts, w_otherKeys, w_parted, w_sorts, w_sums)) : Cn l g yX3_tellApart (Cond.code yX3_tellApart cX3_tellApart 5 none :: wG) 5 126 [.ref (g.2.1 41), .ref (g.2.1 10)] σ none (mkS σ [(2634, w_count), (2632, w_ready), (2633, w_size)] [] [(44, w_firsts), (45, w_heads), (48, w_keys), (46, w_nexts), (49, w_otherKeys), (43, w_parted), (42, w_sorts)] [(47, w_sums)]) := by
  unfold Cn
  refine Met.ofW (cc := cX3_tellApart) (maxL := 5) (ret := none) (by decide) rfl ?_
  intro p e s m args below meth c s₁ B hml hv
  obtain ⟨hargs, hP0, hK⟩ := hv
  have hx := B.exec
  have hb := B.bytes
  have hr := B.returns
  have hts : ∀ w ∈ wG, w.before args s = true := fun w h => atoms_spec (ws := (Cond.code yX3_tellApart cX3_tellApart 5 none :: wG)) B.pre w (List.mem_cons_of_mem _ h)
  have hown : s.vm.findClass RX3 = some m.cls := findClass_of_methodNamed B.named
  have hlocks := B.notSynchronized
  have hS9 : CallFix p m c cX3_tellApart 5 s args wG RX3 := ⟨hx, hb, hml, hown, hts⟩
  have hw0 := hts _ mw_2_12
  have hw1 := hts _ mw_2_9
  have hw2 := hts _ mw_1_59
  have hw3 := hts _ mw_2_11
  have hf9 : entryFrame m args 5 = _ := (congrArg (fun a => entryFrame m a 5) hargs).trans (lg_entry_eq m [.ref (g.2.1 41), .ref (g.2.1 10)] 5)
  show Wg p l e 5 126 s m args below meth c g none (mkS σ [(2634, w_count), (2632, w_ready), (2633, w_size)] [] [(44, w_firsts), (45, w_heads), (48, w_keys), (46, w_nexts), (49, w_otherKeys), (43, w_parted), (42, w_sorts)] [(47, w_sums)]) s.heap [] (entryFrame m args 5)
  rw [hf9]
  have hl := lv_entry ([.ref (g.2.1 41), .ref (g.2.1 10)]) (n := 5) (Nat.le_of_ble_eq_true rfl)
  generalize (lg_sl ([.ref (g.2.1 41), .ref (g.2.1 10)]) ++ List.replicate (5 - (lg_sl ([.ref (g.2.1 41), .ref (g.2.1 10)])).length) Slot.unset).toArray = ls at hl ⊢
  have hl : lv_has ls 5 [(0, .ref (g.2.1 41)), (1, .ref (g.2.1 10))] := hl
  have hG : GW g s σ s.heap [] := ⟨hP0, va_S.rf⟩
  have hG : GW g s (mkS σ [(2634, (σ.1 2634)), (2632, (σ.1 2632)), (2633, (σ.1 2633))] [] [(44, (σ.2.2.1 44)), (45, (σ.2.2.1 45)), (48, (σ.2.2.1 48)), (46, (σ.2.2.1 46)), (49, (σ.2.2.1 49)), (43, (σ.2.2.1 43)), (42, (σ.2.2.1 42))] [(47, (σ.2.2.2 47))]) s.heap [] := GW_self [2634, 2632, 2633] [] [44, 45, 48, 46, 49, 43, 42] [47] hG
  unfold Pr_tellApart at h
  have n75 : ∀ (k25 : Int32 → Int32 → Int32 → Int32 → Int32 → (Nat → Int32) → (Nat → Int32) → (Nat → Int32) → (Nat → Int32) → (Nat → Int32) → (Nat → Int32) → (Nat → Int32) → (Nat → Int64) → Option (Int32 × Int32 × Int32 × (Nat → Int32) × (Nat → Int32) × (Nat → Int32) × (Nat → Int32) × (Nat → Int32) × (Nat → Int32) × (Nat → Int32) × (Nat → Int64))) (hk25 : ∀ (x2 : Int32) (x3 : Int32) (v_count : Int32) (v_ready : Int32) (v_size : Int32) (v_firsts : Nat → Int32) (v_heads : Nat → Int32) (v_keys : Nat → Int32) (v_nexts : Nat → Int32) (v_otherKeys : Nat → Int32) (v_parted : Nat → Int32) (v_sorts : Nat → Int32) (v_sums : Nat → Int64) (H : Heap) (locs : List Loc) (ls : Array Slot), lv_has ls 5 [(0, .ref (g.2.1 41)), (2, .int x2), (3, .int x3)] → GW g s (mkS σ [(2634, v_count), (2632, v_ready), (2633, v_size)] [] [(44, v_firsts), (45, v_heads), (48, v_keys), (46, v_nexts), (49, v_otherKeys), (43, v_parted), (42, v_sorts)] [(47, v_sums)]) H locs → k25 x2 x3 v_count v_ready v_size v_firsts v_heads v_keys v_nexts v_otherKeys v_parted v_sorts v_sums = some (w_count, w_ready, w_size, w_firsts, w_heads, w_keys, w_nexts, w_otherKeys, w_parted, w_sorts, w_sums) → Wg p l e 5 126 s m args below meth c g none (mkS σ [(2634, w_count), (2632, w_ready), (2633, w_size)] [] [(44, w_firsts), (45, w_heads), (48, w_keys), (46, w_nexts), (49, w_otherKeys), (43, w_parted), (42, w_sorts)] [(47, w_sums)]) H locs (F0 m 25 ls [])) (x3 : Int32) (t0 : Int32) (v_count : Int32) (v_ready : Int32) (v_size : Int32) (v_firsts : Nat → Int32) (v_heads : Nat → Int32) (v_keys : Nat → Int32) (v_nexts : Nat → Int32) (v_otherKeys : Nat → Int32) (v_parted : Nat → Int32) (v_sorts : Nat → Int32) (v_sums : Nat → Int64) (H : Heap) (locs : List Loc) (ls : Array Slot), lv_has ls 5 [(0, .ref (g.2.1 41)), (3, .int x3)] → GW g s (mkS σ [(2634, v_count), (2632, v_ready), (2633, v_size)] [] [(44, v_firsts), (45, v_heads), (48, v_keys), (46, v_nexts), (49, v_otherKeys), (43, v_parted), (42, v_sorts)] [(47, v_sums)]) H locs → Pr_tellApart_n75 k25 x3 t0 v_count v_ready v_size v_firsts v_heads v_keys v_nexts v_otherKeys v_parted v_sorts v_sums = some (w_count, w_ready, w_size, w_firsts, w_heads, w_keys, w_nexts, w_otherKeys, w_parted, w_sorts, w_sums) → Wg p l e 5 126 s m args below meth c g none (mkS σ [(2634, w_count), (2632, w_ready), (2633, w_size)] [] [(44, w_firsts), (45, w_heads), (48, w_keys), (46, w_nexts), (49, w_otherKeys), (43, w_parted), (42, w_sorts)] [(47, w_sums)]) H locs (F0 m 75 ls [.int t0]) := by
    intro k25 hk25 x3 t0 v_count v_ready v_size v_firsts v_heads v_keys v_nexts v_otherKeys v_parted v_sorts v_sums H locs ls hl hG h
    unfold Pr_tellApart_n75 at h
    refine lv_istore_n (lv' := [(2, .int t0), (0, .ref (g.2.1 41)), (3, .int x3)]) hx hb dX3_tellApart_75 rfl hl (Nat.le_of_ble_eq_true rfl) rfl (fun ls hl => ?_)
    refine lv_iinc (v := (x3 + (1 : Int32))) (lv' := [(3, .int (x3 + (1 : Int32))), (2, .int t0), (0, .ref (g.2.1 41))]) hx hb dX3_tellApart_76 hl (k := 2) rfl (congrArg (fun z => x3 + z) (by decide)) (Nat.le_of_ble_eq_true rfl) rfl (fun ls hl => ?_)
    refine lv_goto (tgt := 25) hx hb dX3_tellApart_79 (by decide) ?_
    exact hk25 t0 (x3 + (1 : Int32)) v_count v_ready v_size v_firsts v_heads v_keys v_nexts v_otherKeys v_parted v_sorts v_sums _ _ _ (lv_sub hl [2, 1, 0] rfl) hG h
  have n61 : ∀ (k25 : Int32 → Int32 → Int32 → Int32 → Int32 → (Nat → Int32) → (Nat → Int32) → (Nat → Int32) → (Nat → Int32) → (Nat → Int32) → (Nat → Int32) → (Nat → Int32) → (Nat → Int64) → Option (Int32 × Int32 × Int32 × (Nat → Int32) × (Nat → Int32) × (Nat → Int32) × (Nat → Int32) × (Nat → Int32) × (Nat → Int32) × (Nat → Int32) × (Nat → Int64))) (hk25 : ∀ (x2 : Int32) (x3 : Int32) (v_count : Int32) (v_ready : Int32) (v_size : Int32) (v_firsts : Nat → Int32) (v_heads : Nat → Int32) (v_keys : Nat → Int32) (v_nexts : Nat → Int32) (v_otherKeys : Nat → Int32) (v_parted : Nat → Int32) (v_sorts : Nat → Int32) (v_sums : Nat → Int64) (H : Heap) (locs : List Loc) (ls : Array Slot), lv_has ls 5 [(0, .ref (g.2.1 41)), (2, .int x2), (3, .int x3)] → GW g s (mkS σ [(2634, v_count), (2632, v_ready), (2633, v_size)] [] [(44, v_firsts), (45, v_heads), (48, v_keys), (46, v_nexts), (49, v_otherKeys), (43, v_parted), (42, v_sorts)] [(47, v_sums)]) H locs → k25 x2 x3 v_count v_ready v_size v_firsts v_heads v_keys v_nexts v_otherKeys v_parted v_sorts v_sums = some (w_count, w_ready, w_size, w_firsts, w_heads, w_keys, w_nexts, w_otherKeys, w_parted, w_sorts, w_sums) → Wg p l e 5 126 s m args below meth c g none (mkS σ [(2634, w_count), (2632, w_ready), (2633, w_size)] [] [(44, w_firsts), (45, w_heads), (48, w_keys), (46, w_nexts), (49, w_otherKeys), (43, w_parted), (42, w_sorts)] [(47, w_sums)]) H locs (F0 m 25 ls [])) (x3 : Int32) (x4 : Int32) (v_count : Int32) (v_ready : Int32) (v_size : Int32) (v_firsts : Nat → Int32) (v_heads : Nat → Int32) (v_keys : Nat → Int32) (v_nexts : Nat → Int32) (v_otherKeys : Nat → Int32) (v_parted : Nat → Int32) (v_sorts : Nat → Int32) (v_sums : Nat → Int64) (H : Heap) (locs : List Loc) (ls : Array Slot), lv_has ls 5 [(0, .ref (g.2.1 41)), (3, .int x3), (4, .int x4)] → GW g s (mkS σ [(2634, v_count), (2632, v_ready), (2633, v_size)] [] [(44, v_firsts), (45, v_heads), (48, v_keys), (46, v_nexts), (49, v_otherKeys), (43, v_parted), (42, v_sorts)] [(47, v_sums)]) H locs → Pr_tellApart_n61 k25 x3 x4 v_count v_ready v_size v_firsts v_heads v_keys v_nexts v_otherKeys v_parted v_sorts v_sums = some (w_count, w_ready, w_size, w_firsts, w_heads, w_keys, w_nexts, w_otherKeys, w_parted, w_sorts, w_sums) → Wg p l e 5 126 s m args below meth c g none (mkS σ [(2634, w_count), (2632, w_ready), (2633, w_size)] [] [(44, w_firsts), (45, w_heads), (48, w_keys), (46, w_nexts), (49, w_otherKeys), (43, w_parted), (42, w_sorts)] [(47, w_sums)]) H locs (F0 m 61 ls []) := by
    intro k25 hk25 x3 x4 v_count v_ready v_size v_firsts v_heads v_keys v_nexts v_otherKeys v_parted v_sorts v_sums H locs ls hl hG h
    unfold Pr_tellApart_n61 at h
    refine lv_aload_n hx hb dX3_tellApart_61 rfl (lv_at hl 0 rfl) ?_
    refine gx_get (v := .int v_count) (C := RX3) (T := TX3) (N := 11) hx hb hts mc_X3 hown hK hG (ga_41 g _) rfl 10 (by decide) hw0 rfl rfl dX3_tellApart_62 ?_
    refine lv_iload hx hb dX3_tellApart_65 (lv_at hl 2 rfl) ?_
    refine lv_icmp_le (tgt := 74) hx hb dX3_tellApart_67 (by decide) (fun c1 => ?_) (fun c1 => ?_)
    · have h := ite_t c1 h
      refine lv_iconst (v := (0 : Int32)) hx hb dX3_tellApart_74 (by decide) ?_
      exact n75 k25 hk25 x3 (0 : Int32) v_count v_ready v_size v_firsts v_heads v_keys v_nexts v_otherKeys v_parted v_sorts v_sums _ _ _ (lv_sub hl [0, 1] rfl) hG h
    · have h := ite_f c1 h
      refine lv_iconst (v := (1 : Int32)) hx hb dX3_tellApart_70 (by decide) ?_
      refine lv_goto (tgt := 75) hx hb dX3_tellApart_71 (by decide) ?_
      exact n75 k25 hk25 x3 (1 : Int32) v_count v_ready v_size v_firsts v_heads v_keys v_nexts v_otherKeys v_parted v_sorts v_sums _ _ _ (lv_sub hl [0, 1] rfl) hG h
  have n82 : ∀ (v_count : Int32) (v_ready : Int32) (v_size : Int32) (v_firsts : Nat → Int32) (v_heads : Nat → Int32) (v_keys : Nat → Int32) (v_nexts : Nat → Int32) (v_otherKeys : Nat → Int32) (v_parted : Nat → Int32) (v_sorts : Nat → Int32) (v_sums : Nat → Int64) (H : Heap) (locs : List Loc) (ls : Array Slot), lv_has ls 5 [(0, .ref (g.2.1 41))] → GW g s (mkS σ [(2634, v_count), (2632, v_ready), (2633, v_size)] [] [(44, v_firsts), (45, v_heads), (48, v_keys), (46, v_nexts), (49, v_otherKeys), (43, v_parted), (42, v_sorts)] [(47, v_sums)]) H locs → Pr_tellApart_n82 v_count v_ready v_size v_firsts v_heads v_keys v_nexts v_otherKeys v_parted v_sorts v_sums = some (w_count, w_ready, w_size, w_firsts, w_heads, w_keys, w_nexts, w_otherKeys, w_parted, w_sorts, w_sums) → Wg p l e 5 126 s m args below meth c g none (mkS σ [(2634, w_count), (2632, w_ready), (2633, w_size)] [] [(44, w_firsts), (45, w_heads), (48, w_keys), (46, w_nexts), (49, w_otherKeys), (43, w_parted), (42, w_sorts)] [(47, w_sums)]) H locs (F0 m 82 ls []) := by
    intro v_count v_ready v_size v_firsts v_heads v_keys v_nexts v_otherKeys v_parted v_sorts v_sums H locs ls hl hG h
    unfold Pr_tellApart_n82 at h
    refine lv_aload_n hx hb dX3_tellApart_82 rfl (lv_at hl 0 rfl) ?_
    refine lv_iconst (v := (1 : Int32)) hx hb dX3_tellApart_83 (by decide) ?_
    refine gx_put (σ' := (mkS σ [(2634, v_count), (2632, (1 : Int32)), (2633, v_size)] [] [(44, v_firsts), (45, v_heads), (48, v_keys), (46, v_nexts), (49, v_otherKeys), (43, v_parted), (42, v_sorts)] [(47, v_sums)])) (C := RX3) (T := TX3) (N := 11) hx hb hts mc_X3 tyX3 tyX3_ok nmX3 hown hK hG (ga_41 g _) rfl 8 (by decide) hw1 rfl rfl (isb_n (by decide)) (isb_f (by decide)) (Nat.le_of_ble_eq_true rfl) ((gf_2632 g _ _).trans (congrArg (g_cells g) (mk_a 1 rfl rfl))) dX3_tellApart_84 (fun H locs hG => ?_)
    cases h
    exact gx_vret hx hb hr hlocks hG dX3_tellApart_87
  have n25 : ∀ (k25 : Int32 → Int32 → Int32 → Int32 → Int32 → (Nat → Int32) → (Nat → Int32) → (Nat → Int32) → (Nat → Int32) → (Nat → Int32) → (Nat → Int32) → (Nat → Int32) → (Nat → Int64) → Option (Int32 × Int32 × Int32 × (Nat → Int32) × (Nat → Int32) × (Nat → Int32) × (Nat → Int32) × (Nat → Int32) × (Nat → Int32) × (Nat → Int32) × (Nat → Int64))) (hk25 : ∀ (x2 : Int32) (x3 : Int32) (v_count : Int32) (v_ready : Int32) (v_size : Int32) (v_firsts : Nat → Int32) (v_heads : Nat → Int32) (v_keys : Nat → Int32) (v_nexts : Nat → Int32) (v_otherKeys : Nat → Int32) (v_parted : Nat → Int32) (v_sorts : Nat → Int32) (v_sums : Nat → Int64) (H : Heap) (locs : List Loc) (ls : Array Slot), lv_has ls 5 [(0, .ref (g.2.1 41)), (2, .int x2), (3, .int x3)] → GW g s (mkS σ [(2634, v_count), (2632, v_ready), (2633, v_size)] [] [(44, v_firsts), (45, v_heads), (48, v_keys), (46, v_nexts), (49, v_otherKeys), (43, v_parted), (42, v_sorts)] [(47, v_sums)]) H locs → k25 x2 x3 v_count v_ready v_size v_firsts v_heads v_keys v_nexts v_otherKeys v_parted v_sorts v_sums = some (w_count, w_ready, w_size, w_firsts, w_heads, w_keys, w_nexts, w_otherKeys, w_parted, w_sorts, w_sums) → Wg p l e 5 126 s m args below meth c g none (mkS σ [(2634, w_count), (2632, w_ready), (2633, w_size)] [] [(44, w_firsts), (45, w_heads), (48, w_keys), (46, w_nexts), (49, w_otherKeys), (43, w_parted), (42, w_sorts)] [(47, w_sums)]) H locs (F0 m 25 ls [])) (x2 : Int32) (x3 : Int32) (v_count : Int32) (v_ready : Int32) (v_size : Int32) (v_firsts : Nat → Int32) (v_heads : Nat → Int32) (v_keys : Nat → Int32) (v_nexts : Nat → Int32) (v_otherKeys : Nat → Int32) (v_parted : Nat → Int32) (v_sorts : Nat → Int32) (v_sums : Nat → Int64) (H : Heap) (locs : List Loc) (ls : Array Slot), lv_has ls 5 [(0, .ref (g.2.1 41)), (2, .int x2), (3, .int x3)] → GW g s (mkS σ [(2634, v_count), (2632, v_ready), (2633, v_size)] [] [(44, v_firsts), (45, v_heads), (48, v_keys), (46, v_nexts), (49, v_otherKeys), (43, v_parted), (42, v_sorts)] [(47, v_sums)]) H locs → Pr_tellApart_n25 k25 x2 x3 v_count v_ready v_size v_firsts v_heads v_keys v_nexts v_otherKeys v_parted v_sorts v_sums = some (w_count, w_ready, w_size, w_firsts, w_heads, w_keys, w_nexts, w_otherKeys, w_parted, w_sorts, w_sums) → Wg p l e 5 126 s m args below meth c g none (mkS σ [(2634, w_count), (2632, w_ready), (2633, w_size)] [] [(44, w_firsts), (45, w_heads), (48, w_keys), (46, w_nexts), (49, w_otherKeys), (43, w_parted), (42, w_sorts)] [(47, w_sums)]) H locs (F0 m 25 ls []) := by
    intro k25 hk25 x2 x3 v_count v_ready v_size v_firsts v_heads v_keys v_nexts v_otherKeys v_parted v_sorts v_sums H locs ls hl hG h
    unfold Pr_tellApart_n25 at h
    refine lv_iload_n hx hb dX3_tellApart_25 rfl (lv_at hl 2 rfl) ?_
    refine lv_sipush (v := (1024 : Int32)) hx hb dX3_tellApart_26 (by decide) ?_
    refine lv_icmp_gt (tgt := 82) hx hb dX3_tellApart_29 (by decide) (fun c2 => ?_) (fun c2 => ?_)
    · have h := ite_t c2 h
      exact n82 v_count v_ready v_size v_firsts v_heads v_keys v_nexts v_otherKeys v_parted v_sorts v_sums _ _ _ (lv_sub hl [0] rfl) hG h
    · have h := ite_f c2 h
      refine lv_iload_n hx hb dX3_tellApart_32 rfl (lv_at hl 1 rfl) ?_
      refine lv_if_eq (tgt := 82) hx hb dX3_tellApart_33 (by decide) (fun c3 => ?_) (fun c3 => ?_)
      · have h := ite_t c3 h
        exact n82 v_count v_ready v_size v_firsts v_heads v_keys v_nexts v_otherKeys v_parted v_sorts v_sums _ _ _ (lv_sub hl [0] rfl) hG h
      · have h := ite_f c3 h
        refine lv_aload_n hx hb dX3_tellApart_36 rfl (lv_at hl 0 rfl) ?_
        refine gx_get (v := .int v_count) (C := RX3) (T := TX3) (N := 11) hx hb hts mc_X3 hown hK hG (ga_41 g _) rfl 10 (by decide) hw0 rfl rfl dX3_tellApart_37 ?_
        refine lv_istore (lv' := [(4, .int v_count), (0, .ref (g.2.1 41)), (2, .int x2), (3, .int x3)]) hx hb dX3_tellApart_40 hl (Nat.le_of_ble_eq_true rfl) rfl (fun ls hl => ?_)
        refine lv_aload_n hx hb dX3_tellApart_42 rfl (lv_at hl 1 rfl) ?_
        refine lv_iconst (v := (0 : Int32)) hx hb dX3_tellApart_43 (by decide) ?_
        obtain ⟨z4, hc5, h⟩ := bnd_some h
        refine gx_cV (σ' := (mkS σ [(2634, z4.1), (2632, v_ready), (2633, v_size)] [] [(44, z4.2.1), (45, z4.2.2.1), (48, z4.2.2.2.1), (46, z4.2.2.2.2.1), (49, z4.2.2.2.2.2.1), (43, z4.2.2.2.2.2.2.1), (42, z4.2.2.2.2.2.2.2.1)] [(47, z4.2.2.2.2.2.2.2.2)])) (r := none) (rest := []) (As := [.int (0 : Int32)]) hS9 (c_Pr_refine l g (mkS σ [(2634, v_count), (2632, v_ready), (2633, v_size)] [] [(44, v_firsts), (45, v_heads), (48, v_keys), (46, v_nexts), (49, v_otherKeys), (43, v_parted), (42, v_sorts)] [(47, v_sums)]) (0 : Int32) z4.1 z4.2.1 z4.2.2.1 z4.2.2.2.1 z4.2.2.2.2.1 z4.2.2.2.2.2.1 z4.2.2.2.2.2.2.1 z4.2.2.2.2.2.2.2.1 z4.2.2.2.2.2.2.2.2 hc5) (mk_mk rfl rfl rfl rfl) (cwV 1 hts (gz_V mw_4_90 mw_4_92 ms_2_13 mw_1_10 mw_4_93) rfl rfl rfl hdV_X3_refine ⟨Nat.le_of_ble_eq_true rfl, Nat.le_of_ble_eq_true rfl⟩) hK hG (ga_41 g _) rfl rfl rfl hl.1 rfl (Nat.le_of_ble_eq_true rfl) dX3_tellApart_44 (fun H locs hG => ?_)
        refine W.eq (g2 := F0 m 47 ls []) rfl ?_
        refine lv_aload_n hx hb dX3_tellApart_47 rfl (lv_at hl 1 rfl) ?_
        refine gx_get (v := .int z4.1) (C := RX3) (T := TX3) (N := 11) hx hb hts mc_X3 hown hK hG (ga_41 g _) rfl 10 (by decide) hw0 rfl rfl dX3_tellApart_48 ?_
        refine lv_iload hx hb dX3_tellApart_51 (lv_at hl 0 rfl) ?_
        refine lv_icmp_ne (tgt := 61) hx hb dX3_tellApart_53 (by decide) (fun c6 => ?_) (fun c6 => ?_)
        · have h := ite_f c6 h
          exact n61 k25 hk25 x3 v_count z4.1 v_ready v_size z4.2.1 z4.2.2.1 z4.2.2.2.1 z4.2.2.2.2.1 z4.2.2.2.2.2.1 z4.2.2.2.2.2.2.1 z4.2.2.2.2.2.2.2.1 z4.2.2.2.2.2.2.2.2 _ _ _ (lv_sub hl [1, 3, 0] rfl) hG h
        · have h := ite_t c6 h
          refine lv_aload_n hx hb dX3_tellApart_56 rfl (lv_at hl 1 rfl) ?_
          refine lv_iconst (v := (1 : Int32)) hx hb dX3_tellApart_57 (by decide) ?_
          obtain ⟨z7, hc8, h⟩ := bnd_some h
          refine gx_cV (σ' := (mkS σ [(2634, z7.1), (2632, v_ready), (2633, v_size)] [] [(44, z7.2.1), (45, z7.2.2.1), (48, z7.2.2.2.1), (46, z7.2.2.2.2.1), (49, z7.2.2.2.2.2.1), (43, z7.2.2.2.2.2.2.1), (42, z7.2.2.2.2.2.2.2.1)] [(47, z7.2.2.2.2.2.2.2.2)])) (r := none) (rest := []) (As := [.int (1 : Int32)]) hS9 (c_Pr_refine l g (mkS σ [(2634, z4.1), (2632, v_ready), (2633, v_size)] [] [(44, z4.2.1), (45, z4.2.2.1), (48, z4.2.2.2.1), (46, z4.2.2.2.2.1), (49, z4.2.2.2.2.2.1), (43, z4.2.2.2.2.2.2.1), (42, z4.2.2.2.2.2.2.2.1)] [(47, z4.2.2.2.2.2.2.2.2)]) (1 : Int32) z7.1 z7.2.1 z7.2.2.1 z7.2.2.2.1 z7.2.2.2.2.1 z7.2.2.2.2.2.1 z7.2.2.2.2.2.2.1 z7.2.2.2.2.2.2.2.1 z7.2.2.2.2.2.2.2.2 hc8) (mk_mk rfl rfl rfl rfl) (cwV 1 hts (gz_V mw_4_90 mw_4_92 ms_2_13 mw_1_10 mw_4_93) rfl rfl rfl hdV_X3_refine ⟨Nat.le_of_ble_eq_true rfl, Nat.le_of_ble_eq_true rfl⟩) hK hG (ga_41 g _) rfl rfl rfl hl.1 rfl (Nat.le_of_ble_eq_true rfl) dX3_tellApart_58 (fun H locs hG => ?_)
          refine W.eq (g2 := F0 m 61 ls []) rfl ?_
          exact n61 k25 hk25 x3 v_count z7.1 v_ready v_size z7.2.1 z7.2.2.1 z7.2.2.2.1 z7.2.2.2.2.1 z7.2.2.2.2.2.1 z7.2.2.2.2.2.2.1 z7.2.2.2.2.2.2.2.1 z7.2.2.2.2.2.2.2.2 _ _ _ (lv_sub hl [1, 3, 0] rfl) hG h
  have l25 : ∀  (F : Nat) (x2 : Int32) (x3 : Int32) (v_count : Int32) (v_ready : Int32) (v_size : Int32) (v_firsts : Nat → Int32) (v_heads : Nat → Int32) (v_keys : Nat → Int32) (v_nexts : Nat → Int32) (v_otherKeys : Nat → Int32) (v_parted : Nat → Int32) (v_sorts : Nat → Int32) (v_sums : Nat → Int64) (H : Heap) (locs : List Loc) (ls : Array Slot), lv_has ls 5 [(0, .ref (g.2.1 41)), (2, .int x2), (3, .int x3)] → GW g s (mkS σ [(2634, v_count), (2632, v_ready), (2633, v_size)] [] [(44, v_firsts), (45, v_heads), (48, v_keys), (46, v_nexts), (49, v_otherKeys), (43, v_parted), (42, v_sorts)] [(47, v_sums)]) H locs → Pr_tellApart_l25 F x2 x3 v_count v_ready v_size v_firsts v_heads v_keys v_nexts v_otherKeys v_parted v_sorts v_sums = some (w_count, w_ready, w_size, w_firsts, w_heads, w_keys, w_nexts, w_otherKeys, w_parted, w_sorts, w_sums) → Wg p l e 5 126 s m args below meth c g none (mkS σ [(2634, w_count), (2632, w_ready), (2633, w_size)] [] [(44, w_firsts), (45, w_heads), (48, w_keys), (46, w_nexts), (49, w_otherKeys), (43, w_parted), (42, w_sorts)] [(47, w_sums)]) H locs (F0 m 25 ls []) := by
    intro F
    induction F with
    | zero => intro x2 x3 v_count v_ready v_size v_firsts v_heads v_keys v_nexts v_otherKeys v_parted v_sorts v_sums H locs ls hl hG h; exact no_some h
    | succ F ih => intro x2 x3 v_count v_ready v_size v_firsts v_heads v_keys v_nexts v_otherKeys v_parted v_sorts v_sums H locs ls hl hG h; exact n25 (fun x2 x3 v_count v_ready v_size v_firsts v_heads v_keys v_nexts v_otherKeys v_parted v_sorts v_sums => Pr_tellApart_l25 F x2 x3 v_count v_ready v_size v_firsts v_heads v_keys v_nexts v_otherKeys v_parted v_sorts v_sums) ih x2 x3 v_count v_ready v_size v_firsts v_heads v_keys v_nexts v_otherKeys v_parted v_sorts v_sums H locs ls hl hG h
  refine lv_aload_n hx hb dX3_tellApart_0 rfl (lv_at hl 0 rfl) ?_
  refine gx_get (v := .int (σ.1 2632)) (C := RX3) (T := TX3) (N := 11) hx hb hts mc_X3 hown hK hG (ga_41 g _) rfl 8 (by decide) hw1 rfl rfl dX3_tellApart_1 ?_
  refine lv_if_eq (tgt := 8) hx hb dX3_tellApart_4 (by decide) (fun c9 => ?_) (fun c9 => ?_)
  · have h := ite_t c9 h
    refine lv_aload_n hx hb dX3_tellApart_8 rfl (lv_at hl 0 rfl) ?_
    refine lv_aload_n hx hb dX3_tellApart_9 rfl (lv_at hl 1 rfl) ?_
    refine gx_get (v := .int (σ.1 641)) (C := RX2) (T := TX2) (N := 2) hx hb hts mc_X2 hown hK hG (ga_10 g _) rfl 1 (by decide) hw2 rfl rfl dX3_tellApart_10 ?_
    refine gx_put (σ' := (mkS σ [(2634, (σ.1 2634)), (2632, (σ.1 2632)), (2633, (σ.1 641))] [] [(44, (σ.2.2.1 44)), (45, (σ.2.2.1 45)), (48, (σ.2.2.1 48)), (46, (σ.2.2.1 46)), (49, (σ.2.2.1 49)), (43, (σ.2.2.1 43)), (42, (σ.2.2.1 42))] [(47, (σ.2.2.2 47))])) (C := RX3) (T := TX3) (N := 11) hx hb hts mc_X3 tyX3 tyX3_ok nmX3 hown hK hG (ga_41 g _) rfl 9 (by decide) hw3 rfl rfl rfl rfl (Nat.le_of_ble_eq_true rfl) ((gf_2633 g _ _).trans (congrArg (g_cells g) (mk_a 2 rfl rfl))) dX3_tellApart_13 (fun H locs hG => ?_)
    refine lv_aload_n hx hb dX3_tellApart_16 rfl (lv_at hl 0 rfl) ?_
    refine lv_aload_n hx hb dX3_tellApart_17 rfl (lv_at hl 1 rfl) ?_
    obtain ⟨z10, hc11, h⟩ := bnd_some h
    refine gx_cV (σ' := (mkS σ [(2634, z10.1), (2632, (σ.1 2632)), (2633, (σ.1 641))] [] [(44, (σ.2.2.1 44)), (45, (σ.2.2.1 45)), (48, (σ.2.2.1 48)), (46, (σ.2.2.1 46)), (49, (σ.2.2.1 49)), (43, (σ.2.2.1 43)), (42, z10.2)] [(47, (σ.2.2.2 47))])) (r := none) (rest := []) (As := [.ref (g.2.1 10)]) hS9 (c_Pr_begin l g (mkS σ [(2634, (σ.1 2634)), (2632, (σ.1 2632)), (2633, (σ.1 641))] [] [(44, (σ.2.2.1 44)), (45, (σ.2.2.1 45)), (48, (σ.2.2.1 48)), (46, (σ.2.2.1 46)), (49, (σ.2.2.1 49)), (43, (σ.2.2.1 43)), (42, (σ.2.2.1 42))] [(47, (σ.2.2.2 47))]) z10.1 z10.2 hc11) (mk_mk rfl rfl rfl rfl) (cwV 1 hts (gz_V mw_4_85 mw_4_87 ms_2_12 mw_1_10 mw_4_88) rfl rfl rfl hdV_X3_begin ⟨Nat.le_of_ble_eq_true rfl, Nat.le_of_ble_eq_true rfl⟩) hK hG (ga_41 g _) rfl rfl rfl hl.1 rfl (Nat.le_of_ble_eq_true rfl) dX3_tellApart_18 (fun H locs hG => ?_)
    refine W.eq (g2 := F0 m 21 ls []) rfl ?_
    refine lv_iconst (v := (1 : Int32)) hx hb dX3_tellApart_21 (by decide) ?_
    refine lv_istore_n (lv' := [(2, .int (1 : Int32)), (0, .ref (g.2.1 41)), (1, .ref (g.2.1 10))]) hx hb dX3_tellApart_22 rfl hl (Nat.le_of_ble_eq_true rfl) rfl (fun ls hl => ?_)
    refine lv_iconst (v := (0 : Int32)) hx hb dX3_tellApart_23 (by decide) ?_
    refine lv_istore_n (lv' := [(3, .int (0 : Int32)), (2, .int (1 : Int32)), (0, .ref (g.2.1 41)), (1, .ref (g.2.1 10))]) hx hb dX3_tellApart_24 rfl hl (Nat.le_of_ble_eq_true rfl) rfl (fun ls hl => ?_)
    exact l25 FUEL (1 : Int32) (0 : Int32) z10.1 (σ.1 2632) (σ.1 641) (σ.2.2.1 44) (σ.2.2.1 45) (σ.2.2.1 48) (σ.2.2.1 46) (σ.2.2.1 49) (σ.2.2.1 43) z10.2 (σ.2.2.2 47) _ _ _ (lv_sub hl [2, 1, 0] rfl) hG h
  · have h := ite_f c9 h
    cases h
    exact gx_vret hx hb hr hlocks hG dX3_tellApart_7

set_option maxHeartbeats 4000000 in
set_option maxRecDepth 100000 in
theorem c_Pr_of (l : Launch) (g : GC) (σ : St) (x1 : Int32) (x2 : Int32) (r : Int32) (h : Pr_of x1 x2 (σ.2.2.1 42) = some r) : Cn l g yX3_of (Cond.code yX3_of cX3_of 3 (some .int) :: wG) 0 0 [.ref (g.2.1 41), .int x1, .int x2] σ (some (.int r)) σ := by
  unfold Cn
  refine Met.ofW (cc := cX3_of) (maxL := 3) (ret := (some .int)) (by decide) rfl ?_
  intro p e s m args below meth c s₁ B hml hv
  obtain ⟨hargs, hP0, hK⟩ := hv
  have hx := B.exec
  have hb := B.bytes
  have hr := B.returns
  have hts : ∀ w ∈ wG, w.before args s = true := fun w h => atoms_spec (ws := (Cond.code yX3_of cX3_of 3 (some .int) :: wG)) B.pre w (List.mem_cons_of_mem _ h)
  have hown : s.vm.findClass RX3 = some m.cls := findClass_of_methodNamed B.named
  have hlocks := B.notSynchronized
  have hw0 := hts _ mw_2_1
  have hf9 : entryFrame m args 3 = _ := (congrArg (fun a => entryFrame m a 3) hargs).trans (lg_entry_eq m [.ref (g.2.1 41), .int x1, .int x2] 3)
  show Wg p l e 0 0 s m args below meth c g (some (.int r)) σ s.heap [] (entryFrame m args 3)
  rw [hf9]
  have hl := lv_entry ([.ref (g.2.1 41), .int x1, .int x2]) (n := 3) (Nat.le_of_ble_eq_true rfl)
  generalize (lg_sl ([.ref (g.2.1 41), .int x1, .int x2]) ++ List.replicate (3 - (lg_sl ([.ref (g.2.1 41), .int x1, .int x2])).length) Slot.unset).toArray = ls at hl ⊢
  have hl : lv_has ls 3 [(0, .ref (g.2.1 41)), (1, .int x1), (2, .int x2)] := hl
  have hG : GW g s σ s.heap [] := ⟨hP0, va_S.rf⟩
  unfold Pr_of at h
  refine lv_aload_n hx hb dX3_of_0 rfl (lv_at hl 0 rfl) ?_
  refine gx_get (v := .ref (g.2.1 42)) (C := RX3) (T := TX3) (N := 11) hx hb hts mc_X3 hown hK hG (ga_41 g _) rfl 0 (by decide) hw0 rfl rfl dX3_of_1 ?_
  refine lv_iload_n hx hb dX3_of_4 rfl (lv_at hl 1 rfl) ?_
  refine lv_bipush (v := (32 : Int32)) hx hb dX3_of_5 (by decide) ?_
  refine lv_imul hx hb dX3_of_7 ?_
  refine lv_iload_n hx hb dX3_of_8 rfl (lv_at hl 2 rfl) ?_
  refine lv_iadd hx hb dX3_of_9 ?_
  obtain ⟨hg1, h⟩ := gd_some h
  refine gx_iald (f := (σ.2.2.1 42)) hx hb hK hG (ga_42 g _) hg1 dX3_of_10 ?_
  cases h
  exact gx_iret hx hb hr hlocks hG dX3_of_11

set_option maxHeartbeats 4000000 in
set_option maxRecDepth 100000 in
theorem c_LN_kind (l : Launch) (g : GC) (σ : St) (x1 : Int32) (x2 : Int32) (r : Int32) (w_pairs_count : Int32) (w_pairs_ready : Int32) (w_pairs_size : Int32) (w_pairs_firsts : Nat → Int32) (w_pairs_heads : Nat → Int32) (w_pairs_keys : Nat → Int32) (w_pairs_nexts : Nat → Int32) (w_pairs_otherKeys : Nat → Int32) (w_pairs_parted : Nat → Int32) (w_pairs_sorts : Nat → Int32) (w_pairs_sums : Nat → Int64) (h : LN_kind x1 x2 (σ.1 641) (σ.1 2634) (σ.1 2632) (σ.1 2633) (σ.2.2.1 11) (σ.2.2.1 44) (σ.2.2.1 45) (σ.2.2.1 48) (σ.2.2.1 46) (σ.2.2.1 49) (σ.2.2.1 43) (σ.2.2.1 42) (σ.2.2.2 47) = some (r, w_pairs_count, w_pairs_ready, w_pairs_size, w_pairs_firsts, w_pairs_heads, w_pairs_keys, w_pairs_nexts, w_pairs_otherKeys, w_pairs_parted, w_pairs_sorts, w_pairs_sums)) : Cn l g yX8_kind (Cond.code yX8_kind cX8_kind 3 (some .int) :: wG) 6 150 [.ref (g.2.1 0), .int x1, .int x2] σ (some (.int r)) (mkS σ [(2634, w_pairs_count), (2632, w_pairs_ready), (2633, w_pairs_size)] [] [(44, w_pairs_firsts), (45, w_pairs_heads), (48, w_pairs_keys), (46, w_pairs_nexts), (49, w_pairs_otherKeys), (43, w_pairs_parted), (42, w_pairs_sorts)] [(47, w_pairs_sums)]) := by
  unfold Cn
  refine Met.ofW (cc := cX8_kind) (maxL := 3) (ret := (some .int)) (by decide) rfl ?_
  intro p e s m args below meth c s₁ B hml hv
  obtain ⟨hargs, hP0, hK⟩ := hv
  have hx := B.exec
  have hb := B.bytes
  have hr := B.returns
  have hts : ∀ w ∈ wG, w.before args s = true := fun w h => atoms_spec (ws := (Cond.code yX8_kind cX8_kind 3 (some .int) :: wG)) B.pre w (List.mem_cons_of_mem _ h)
  have hown : s.vm.findClass RX8 = some m.cls := findClass_of_methodNamed B.named
  have hlocks := B.notSynchronized
  have hS9 : CallFix p m c cX8_kind 3 s args wG RX8 := ⟨hx, hb, hml, hown, hts⟩
  have hw0 := hts _ mw_2_38
  have hw1 := hts _ mw_2_48
  have hf9 : entryFrame m args 3 = _ := (congrArg (fun a => entryFrame m a 3) hargs).trans (lg_entry_eq m [.ref (g.2.1 0), .int x1, .int x2] 3)
  show Wg p l e 6 150 s m args below meth c g (some (.int r)) (mkS σ [(2634, w_pairs_count), (2632, w_pairs_ready), (2633, w_pairs_size)] [] [(44, w_pairs_firsts), (45, w_pairs_heads), (48, w_pairs_keys), (46, w_pairs_nexts), (49, w_pairs_otherKeys), (43, w_pairs_parted), (42, w_pairs_sorts)] [(47, w_pairs_sums)]) s.heap [] (entryFrame m args 3)
  rw [hf9]
  have hl := lv_entry ([.ref (g.2.1 0), .int x1, .int x2]) (n := 3) (Nat.le_of_ble_eq_true rfl)
  generalize (lg_sl ([.ref (g.2.1 0), .int x1, .int x2]) ++ List.replicate (3 - (lg_sl ([.ref (g.2.1 0), .int x1, .int x2])).length) Slot.unset).toArray = ls at hl ⊢
  have hl : lv_has ls 3 [(0, .ref (g.2.1 0)), (1, .int x1), (2, .int x2)] := hl
  have hG : GW g s σ s.heap [] := ⟨hP0, va_S.rf⟩
  have hG : GW g s (mkS σ [(2634, (σ.1 2634)), (2632, (σ.1 2632)), (2633, (σ.1 2633))] [] [(44, (σ.2.2.1 44)), (45, (σ.2.2.1 45)), (48, (σ.2.2.1 48)), (46, (σ.2.2.1 46)), (49, (σ.2.2.1 49)), (43, (σ.2.2.1 43)), (42, (σ.2.2.1 42))] [(47, (σ.2.2.2 47))]) s.heap [] := GW_self [2634, 2632, 2633] [] [44, 45, 48, 46, 49, 43, 42] [47] hG
  unfold LN_kind at h
  have n22 : ∀ (v_pairs_count : Int32) (v_pairs_ready : Int32) (v_pairs_size : Int32) (v_pairs_firsts : Nat → Int32) (v_pairs_heads : Nat → Int32) (v_pairs_keys : Nat → Int32) (v_pairs_nexts : Nat → Int32) (v_pairs_otherKeys : Nat → Int32) (v_pairs_parted : Nat → Int32) (v_pairs_sorts : Nat → Int32) (v_pairs_sums : Nat → Int64) (H : Heap) (locs : List Loc) (ls : Array Slot), lv_has ls 3 [] → GW g s (mkS σ [(2634, v_pairs_count), (2632, v_pairs_ready), (2633, v_pairs_size)] [] [(44, v_pairs_firsts), (45, v_pairs_heads), (48, v_pairs_keys), (46, v_pairs_nexts), (49, v_pairs_otherKeys), (43, v_pairs_parted), (42, v_pairs_sorts)] [(47, v_pairs_sums)]) H locs → LN_kind_n22 v_pairs_count v_pairs_ready v_pairs_size v_pairs_firsts v_pairs_heads v_pairs_keys v_pairs_nexts v_pairs_otherKeys v_pairs_parted v_pairs_sorts v_pairs_sums = some (r, w_pairs_count, w_pairs_ready, w_pairs_size, w_pairs_firsts, w_pairs_heads, w_pairs_keys, w_pairs_nexts, w_pairs_otherKeys, w_pairs_parted, w_pairs_sorts, w_pairs_sums) → Wg p l e 6 150 s m args below meth c g (some (.int r)) (mkS σ [(2634, w_pairs_count), (2632, w_pairs_ready), (2633, w_pairs_size)] [] [(44, w_pairs_firsts), (45, w_pairs_heads), (48, w_pairs_keys), (46, w_pairs_nexts), (49, w_pairs_otherKeys), (43, w_pairs_parted), (42, w_pairs_sorts)] [(47, w_pairs_sums)]) H locs (F0 m 22 ls []) := by
    intro v_pairs_count v_pairs_ready v_pairs_size v_pairs_firsts v_pairs_heads v_pairs_keys v_pairs_nexts v_pairs_otherKeys v_pairs_parted v_pairs_sorts v_pairs_sums H locs ls hl hG h
    unfold LN_kind_n22 at h
    refine lv_iconst (v := (-1 : Int32)) hx hb dX8_kind_22 (by decide) ?_
    cases h
    exact gx_iret hx hb hr hlocks hG dX8_kind_23
  refine lv_aload_n hx hb dX8_kind_0 rfl (lv_at hl 0 rfl) ?_
  refine gx_get (v := .ref (g.2.1 10)) (C := RX8) (T := TX8) (N := 13) hx hb hts mc_X8 hown hK hG (ga_0 g _) rfl 1 (by decide) hw0 rfl rfl dX8_kind_1 ?_
  refine lv_iload_n hx hb dX8_kind_4 rfl (lv_at hl 1 rfl) ?_
  obtain ⟨z1, hc2, h⟩ := bnd_some h
  refine gx_cV (σ' := (mkS σ [(2634, (σ.1 2634)), (2632, (σ.1 2632)), (2633, (σ.1 2633))] [] [(44, (σ.2.2.1 44)), (45, (σ.2.2.1 45)), (48, (σ.2.2.1 48)), (46, (σ.2.2.1 46)), (49, (σ.2.2.1 49)), (43, (σ.2.2.1 43)), (42, (σ.2.2.1 42))] [(47, (σ.2.2.2 47))])) (r := (some (.int z1))) (rest := []) (As := [.int x1]) hS9 (c_Net_has_10 l g (mkS σ [(2634, (σ.1 2634)), (2632, (σ.1 2632)), (2633, (σ.1 2633))] [] [(44, (σ.2.2.1 44)), (45, (σ.2.2.1 45)), (48, (σ.2.2.1 48)), (46, (σ.2.2.1 46)), (49, (σ.2.2.1 49)), (43, (σ.2.2.1 43)), (42, (σ.2.2.1 42))] [(47, (σ.2.2.2 47))]) x1 z1 hc2) rfl (cwV 1 hts (gz_V mw_3_4 mw_2_127 mw_2_128 mw_1_3 mw_2_129) rfl rfl rfl hdV_X2_has ⟨Nat.le_of_ble_eq_true rfl, Nat.le_of_ble_eq_true rfl⟩) hK hG (ga_10 g _) rfl rfl rfl hl.1 rfl (Nat.le_of_ble_eq_true rfl) dX8_kind_5 (fun H locs hG => ?_)
  refine W.eq (g2 := F0 m 8 ls [.int z1]) rfl ?_
  refine lv_if_eq (tgt := 22) hx hb dX8_kind_8 (by decide) (fun c3 => ?_) (fun c3 => ?_)
  · have h := ite_t c3 h
    exact n22 (σ.1 2634) (σ.1 2632) (σ.1 2633) (σ.2.2.1 44) (σ.2.2.1 45) (σ.2.2.1 48) (σ.2.2.1 46) (σ.2.2.1 49) (σ.2.2.1 43) (σ.2.2.1 42) (σ.2.2.2 47) _ _ _ (lv_sub hl [] rfl) hG h
  · have h := ite_f c3 h
    refine lv_aload_n hx hb dX8_kind_11 rfl (lv_at hl 0 rfl) ?_
    refine gx_get (v := .ref (g.2.1 10)) (C := RX8) (T := TX8) (N := 13) hx hb hts mc_X8 hown hK hG (ga_0 g _) rfl 1 (by decide) hw0 rfl rfl dX8_kind_12 ?_
    refine lv_iload_n hx hb dX8_kind_15 rfl (lv_at hl 2 rfl) ?_
    obtain ⟨z4, hc5, h⟩ := bnd_some h
    refine gx_cV (σ' := (mkS σ [(2634, (σ.1 2634)), (2632, (σ.1 2632)), (2633, (σ.1 2633))] [] [(44, (σ.2.2.1 44)), (45, (σ.2.2.1 45)), (48, (σ.2.2.1 48)), (46, (σ.2.2.1 46)), (49, (σ.2.2.1 49)), (43, (σ.2.2.1 43)), (42, (σ.2.2.1 42))] [(47, (σ.2.2.2 47))])) (r := (some (.int z4))) (rest := []) (As := [.int x2]) hS9 (c_Net_has_10 l g (mkS σ [(2634, (σ.1 2634)), (2632, (σ.1 2632)), (2633, (σ.1 2633))] [] [(44, (σ.2.2.1 44)), (45, (σ.2.2.1 45)), (48, (σ.2.2.1 48)), (46, (σ.2.2.1 46)), (49, (σ.2.2.1 49)), (43, (σ.2.2.1 43)), (42, (σ.2.2.1 42))] [(47, (σ.2.2.2 47))]) x2 z4 hc5) rfl (cwV 1 hts (gz_V mw_3_4 mw_2_127 mw_2_128 mw_1_3 mw_2_129) rfl rfl rfl hdV_X2_has ⟨Nat.le_of_ble_eq_true rfl, Nat.le_of_ble_eq_true rfl⟩) hK hG (ga_10 g _) rfl rfl rfl hl.1 rfl (Nat.le_of_ble_eq_true rfl) dX8_kind_16 (fun H locs hG => ?_)
    refine W.eq (g2 := F0 m 19 ls [.int z4]) rfl ?_
    refine lv_if_ne (tgt := 24) hx hb dX8_kind_19 (by decide) (fun c6 => ?_) (fun c6 => ?_)
    · have h := ite_f c6 h
      refine lv_aload_n hx hb dX8_kind_24 rfl (lv_at hl 0 rfl) ?_
      refine gx_get (v := .ref (g.2.1 41)) (C := RX8) (T := TX8) (N := 13) hx hb hts mc_X8 hown hK hG (ga_0 g _) rfl 11 (by decide) hw1 rfl rfl dX8_kind_25 ?_
      refine lv_aload_n hx hb dX8_kind_28 rfl (lv_at hl 0 rfl) ?_
      refine gx_get (v := .ref (g.2.1 10)) (C := RX8) (T := TX8) (N := 13) hx hb hts mc_X8 hown hK hG (ga_0 g _) rfl 1 (by decide) hw0 rfl rfl dX8_kind_29 ?_
      obtain ⟨z7, hc8, h⟩ := bnd_some h
      refine gx_cV (σ' := (mkS σ [(2634, z7.1), (2632, z7.2.1), (2633, z7.2.2.1)] [] [(44, z7.2.2.2.1), (45, z7.2.2.2.2.1), (48, z7.2.2.2.2.2.1), (46, z7.2.2.2.2.2.2.1), (49, z7.2.2.2.2.2.2.2.1), (43, z7.2.2.2.2.2.2.2.2.1), (42, z7.2.2.2.2.2.2.2.2.2.1)] [(47, z7.2.2.2.2.2.2.2.2.2.2)])) (r := none) (rest := []) (As := [.ref (g.2.1 10)]) hS9 (c_Pr_tellApart l g (mkS σ [(2634, (σ.1 2634)), (2632, (σ.1 2632)), (2633, (σ.1 2633))] [] [(44, (σ.2.2.1 44)), (45, (σ.2.2.1 45)), (48, (σ.2.2.1 48)), (46, (σ.2.2.1 46)), (49, (σ.2.2.1 49)), (43, (σ.2.2.1 43)), (42, (σ.2.2.1 42))] [(47, (σ.2.2.2 47))]) z7.1 z7.2.1 z7.2.2.1 z7.2.2.2.1 z7.2.2.2.2.1 z7.2.2.2.2.2.1 z7.2.2.2.2.2.2.1 z7.2.2.2.2.2.2.2.1 z7.2.2.2.2.2.2.2.2.1 z7.2.2.2.2.2.2.2.2.2.1 z7.2.2.2.2.2.2.2.2.2.2 hc8) (mk_mk rfl rfl rfl rfl) (cwV 1 hts (gz_V mw_4_81 mw_4_82 mw_4_83 mw_1_10 mw_4_84) rfl rfl rfl hdV_X3_tellApart ⟨Nat.le_of_ble_eq_true rfl, Nat.le_of_ble_eq_true rfl⟩) hK hG (ga_41 g _) rfl rfl rfl hl.1 rfl (Nat.le_of_ble_eq_true rfl) dX8_kind_32 (fun H locs hG => ?_)
      refine W.eq (g2 := F0 m 35 ls []) rfl ?_
      refine lv_aload_n hx hb dX8_kind_35 rfl (lv_at hl 0 rfl) ?_
      refine gx_get (v := .ref (g.2.1 41)) (C := RX8) (T := TX8) (N := 13) hx hb hts mc_X8 hown hK hG (ga_0 g _) rfl 11 (by decide) hw1 rfl rfl dX8_kind_36 ?_
      refine lv_iload_n hx hb dX8_kind_39 rfl (lv_at hl 1 rfl) ?_
      refine lv_iload_n hx hb dX8_kind_40 rfl (lv_at hl 2 rfl) ?_
      obtain ⟨z9, hc10, h⟩ := bnd_some h
      refine gx_cV (σ' := (mkS σ [(2634, z7.1), (2632, z7.2.1), (2633, z7.2.2.1)] [] [(44, z7.2.2.2.1), (45, z7.2.2.2.2.1), (48, z7.2.2.2.2.2.1), (46, z7.2.2.2.2.2.2.1), (49, z7.2.2.2.2.2.2.2.1), (43, z7.2.2.2.2.2.2.2.2.1), (42, z7.2.2.2.2.2.2.2.2.2.1)] [(47, z7.2.2.2.2.2.2.2.2.2.2)])) (r := (some (.int z9))) (rest := []) (As := [.int x1, .int x2]) hS9 (c_Pr_of l g (mkS σ [(2634, z7.1), (2632, z7.2.1), (2633, z7.2.2.1)] [] [(44, z7.2.2.2.1), (45, z7.2.2.2.2.1), (48, z7.2.2.2.2.2.1), (46, z7.2.2.2.2.2.2.1), (49, z7.2.2.2.2.2.2.2.1), (43, z7.2.2.2.2.2.2.2.2.1), (42, z7.2.2.2.2.2.2.2.2.2.1)] [(47, z7.2.2.2.2.2.2.2.2.2.2)]) x1 x2 z9 hc10) rfl (cwV 2 hts (gz_V mw_4_128 mw_4_129 mw_4_130 mw_1_10 mw_4_131) rfl rfl rfl hdV_X3_of ⟨Nat.le_of_ble_eq_true rfl, Nat.le_of_ble_eq_true rfl⟩) hK hG (ga_41 g _) rfl rfl rfl hl.1 rfl (Nat.le_of_ble_eq_true rfl) dX8_kind_41 (fun H locs hG => ?_)
      refine W.eq (g2 := F0 m 44 ls [.int z9]) rfl ?_
      cases h
      exact gx_iret hx hb hr hlocks hG dX8_kind_44
    · have h := ite_t c6 h
      exact n22 (σ.1 2634) (σ.1 2632) (σ.1 2633) (σ.2.2.1 44) (σ.2.2.1 45) (σ.2.2.1 48) (σ.2.2.1 46) (σ.2.2.1 49) (σ.2.2.1 43) (σ.2.2.1 42) (σ.2.2.2 47) _ _ _ (lv_sub hl [] rfl) hG h

set_option maxHeartbeats 4000000 in
set_option maxRecDepth 100000 in
theorem c_LN_kinds (l : Launch) (g : GC) (σ : St) (r : Int32) (w_pairs_count : Int32) (w_pairs_ready : Int32) (w_pairs_size : Int32) (w_pairs_firsts : Nat → Int32) (w_pairs_heads : Nat → Int32) (w_pairs_keys : Nat → Int32) (w_pairs_nexts : Nat → Int32) (w_pairs_otherKeys : Nat → Int32) (w_pairs_parted : Nat → Int32) (w_pairs_sorts : Nat → Int32) (w_pairs_sums : Nat → Int64) (h : LN_kinds (σ.1 641) (σ.1 2634) (σ.1 2632) (σ.1 2633) (σ.2.2.1 11) (σ.2.2.1 44) (σ.2.2.1 45) (σ.2.2.1 48) (σ.2.2.1 46) (σ.2.2.1 49) (σ.2.2.1 43) (σ.2.2.1 42) (σ.2.2.2 47) = some (r, w_pairs_count, w_pairs_ready, w_pairs_size, w_pairs_firsts, w_pairs_heads, w_pairs_keys, w_pairs_nexts, w_pairs_otherKeys, w_pairs_parted, w_pairs_sorts, w_pairs_sums)) : Cn l g yX8_kinds (Cond.code yX8_kinds cX8_kinds 1 (some .int) :: wG) 6 150 [.ref (g.2.1 0)] σ (some (.int r)) (mkS σ [(2634, w_pairs_count), (2632, w_pairs_ready), (2633, w_pairs_size)] [] [(44, w_pairs_firsts), (45, w_pairs_heads), (48, w_pairs_keys), (46, w_pairs_nexts), (49, w_pairs_otherKeys), (43, w_pairs_parted), (42, w_pairs_sorts)] [(47, w_pairs_sums)]) := by
  unfold Cn
  refine Met.ofW (cc := cX8_kinds) (maxL := 1) (ret := (some .int)) (by decide) rfl ?_
  intro p e s m args below meth c s₁ B hml hv
  obtain ⟨hargs, hP0, hK⟩ := hv
  have hx := B.exec
  have hb := B.bytes
  have hr := B.returns
  have hts : ∀ w ∈ wG, w.before args s = true := fun w h => atoms_spec (ws := (Cond.code yX8_kinds cX8_kinds 1 (some .int) :: wG)) B.pre w (List.mem_cons_of_mem _ h)
  have hown : s.vm.findClass RX8 = some m.cls := findClass_of_methodNamed B.named
  have hlocks := B.notSynchronized
  have hS9 : CallFix p m c cX8_kinds 1 s args wG RX8 := ⟨hx, hb, hml, hown, hts⟩
  have hw0 := hts _ mw_2_48
  have hw1 := hts _ mw_2_38
  have hw2 := hts _ mw_2_13
  have hf9 : entryFrame m args 1 = _ := (congrArg (fun a => entryFrame m a 1) hargs).trans (lg_entry_eq m [.ref (g.2.1 0)] 1)
  show Wg p l e 6 150 s m args below meth c g (some (.int r)) (mkS σ [(2634, w_pairs_count), (2632, w_pairs_ready), (2633, w_pairs_size)] [] [(44, w_pairs_firsts), (45, w_pairs_heads), (48, w_pairs_keys), (46, w_pairs_nexts), (49, w_pairs_otherKeys), (43, w_pairs_parted), (42, w_pairs_sorts)] [(47, w_pairs_sums)]) s.heap [] (entryFrame m args 1)
  rw [hf9]
  have hl := lv_entry ([.ref (g.2.1 0)]) (n := 1) (Nat.le_of_ble_eq_true rfl)
  generalize (lg_sl ([.ref (g.2.1 0)]) ++ List.replicate (1 - (lg_sl ([.ref (g.2.1 0)])).length) Slot.unset).toArray = ls at hl ⊢
  have hl : lv_has ls 1 [(0, .ref (g.2.1 0))] := hl
  have hG : GW g s σ s.heap [] := ⟨hP0, va_S.rf⟩
  have hG : GW g s (mkS σ [(2634, (σ.1 2634)), (2632, (σ.1 2632)), (2633, (σ.1 2633))] [] [(44, (σ.2.2.1 44)), (45, (σ.2.2.1 45)), (48, (σ.2.2.1 48)), (46, (σ.2.2.1 46)), (49, (σ.2.2.1 49)), (43, (σ.2.2.1 43)), (42, (σ.2.2.1 42))] [(47, (σ.2.2.2 47))]) s.heap [] := GW_self [2634, 2632, 2633] [] [44, 45, 48, 46, 49, 43, 42] [47] hG
  unfold LN_kinds at h
  refine lv_aload_n hx hb dX8_kinds_0 rfl (lv_at hl 0 rfl) ?_
  refine gx_get (v := .ref (g.2.1 41)) (C := RX8) (T := TX8) (N := 13) hx hb hts mc_X8 hown hK hG (ga_0 g _) rfl 11 (by decide) hw0 rfl rfl dX8_kinds_1 ?_
  refine lv_aload_n hx hb dX8_kinds_4 rfl (lv_at hl 0 rfl) ?_
  refine gx_get (v := .ref (g.2.1 10)) (C := RX8) (T := TX8) (N := 13) hx hb hts mc_X8 hown hK hG (ga_0 g _) rfl 1 (by decide) hw1 rfl rfl dX8_kinds_5 ?_
  obtain ⟨z1, hc2, h⟩ := bnd_some h
  refine gx_cV (σ' := (mkS σ [(2634, z1.1), (2632, z1.2.1), (2633, z1.2.2.1)] [] [(44, z1.2.2.2.1), (45, z1.2.2.2.2.1), (48, z1.2.2.2.2.2.1), (46, z1.2.2.2.2.2.2.1), (49, z1.2.2.2.2.2.2.2.1), (43, z1.2.2.2.2.2.2.2.2.1), (42, z1.2.2.2.2.2.2.2.2.2.1)] [(47, z1.2.2.2.2.2.2.2.2.2.2)])) (r := none) (rest := []) (As := [.ref (g.2.1 10)]) hS9 (c_Pr_tellApart l g (mkS σ [(2634, (σ.1 2634)), (2632, (σ.1 2632)), (2633, (σ.1 2633))] [] [(44, (σ.2.2.1 44)), (45, (σ.2.2.1 45)), (48, (σ.2.2.1 48)), (46, (σ.2.2.1 46)), (49, (σ.2.2.1 49)), (43, (σ.2.2.1 43)), (42, (σ.2.2.1 42))] [(47, (σ.2.2.2 47))]) z1.1 z1.2.1 z1.2.2.1 z1.2.2.2.1 z1.2.2.2.2.1 z1.2.2.2.2.2.1 z1.2.2.2.2.2.2.1 z1.2.2.2.2.2.2.2.1 z1.2.2.2.2.2.2.2.2.1 z1.2.2.2.2.2.2.2.2.2.1 z1.2.2.2.2.2.2.2.2.2.2 hc2) (mk_mk rfl rfl rfl rfl) (cwV 1 hts (gz_V mw_4_81 mw_4_82 mw_4_83 mw_1_10 mw_4_84) rfl rfl rfl hdV_X3_tellApart ⟨Nat.le_of_ble_eq_true rfl, Nat.le_of_ble_eq_true rfl⟩) hK hG (ga_41 g _) rfl rfl rfl hl.1 rfl (Nat.le_of_ble_eq_true rfl) dX8_kinds_8 (fun H locs hG => ?_)
  refine W.eq (g2 := F0 m 11 ls []) rfl ?_
  refine lv_aload_n hx hb dX8_kinds_11 rfl (lv_at hl 0 rfl) ?_
  refine gx_get (v := .ref (g.2.1 41)) (C := RX8) (T := TX8) (N := 13) hx hb hts mc_X8 hown hK hG (ga_0 g _) rfl 11 (by decide) hw0 rfl rfl dX8_kinds_12 ?_
  refine gx_get (v := .int z1.1) (C := RX3) (T := TX3) (N := 11) hx hb hts mc_X3 hown hK hG (ga_41 g _) rfl 10 (by decide) hw2 rfl rfl dX8_kinds_15 ?_
  cases h
  exact gx_iret hx hb hr hlocks hG dX8_kinds_18

set_option maxHeartbeats 4000000 in
set_option maxRecDepth 100000 in
theorem c_Net_fullness_10 (l : Launch) (g : GC) (σ : St) (x1 : Int32) (r : Int32) (h : Net_fullness x1 (σ.2.2.1 11) = some r) : Cn l g yX2_fullness (Cond.code yX2_fullness cX2_fullness 2 (some .int) :: wG) 1 20 [.ref (g.2.1 10), .int x1] σ (some (.int r)) σ := by
  unfold Cn
  refine Met.ofW (cc := cX2_fullness) (maxL := 2) (ret := (some .int)) (by decide) rfl ?_
  intro p e s m args below meth c s₁ B hml hv
  obtain ⟨hargs, hP0, hK⟩ := hv
  have hx := B.exec
  have hb := B.bytes
  have hr := B.returns
  have hts : ∀ w ∈ wG, w.before args s = true := fun w h => atoms_spec (ws := (Cond.code yX2_fullness cX2_fullness 2 (some .int) :: wG)) B.pre w (List.mem_cons_of_mem _ h)
  have hown : s.vm.findClass RX2 = some m.cls := findClass_of_methodNamed B.named
  have hlocks := B.notSynchronized
  have hS9 : CallFix p m c cX2_fullness 2 s args wG RX2 := ⟨hx, hb, hml, hown, hts⟩
  have hw0 := hts _ mw_1_53
  have hf9 : entryFrame m args 2 = _ := (congrArg (fun a => entryFrame m a 2) hargs).trans (lg_entry_eq m [.ref (g.2.1 10), .int x1] 2)
  show Wg p l e 1 20 s m args below meth c g (some (.int r)) σ s.heap [] (entryFrame m args 2)
  rw [hf9]
  have hl := lv_entry ([.ref (g.2.1 10), .int x1]) (n := 2) (Nat.le_of_ble_eq_true rfl)
  generalize (lg_sl ([.ref (g.2.1 10), .int x1]) ++ List.replicate (2 - (lg_sl ([.ref (g.2.1 10), .int x1])).length) Slot.unset).toArray = ls at hl ⊢
  have hl : lv_has ls 2 [(0, .ref (g.2.1 10)), (1, .int x1)] := hl
  have hG : GW g s σ s.heap [] := ⟨hP0, va_S.rf⟩
  unfold Net_fullness at h
  refine lv_aload_n hx hb dX2_fullness_0 rfl (lv_at hl 0 rfl) ?_
  refine gx_get (v := .ref (g.2.1 11)) (C := RX2) (T := TX2) (N := 2) hx hb hts mc_X2 hown hK hG (ga_10 g _) rfl 0 (by decide) hw0 rfl rfl dX2_fullness_1 ?_
  refine lv_iload_n hx hb dX2_fullness_4 rfl (lv_at hl 1 rfl) ?_
  obtain ⟨hg1, h⟩ := gd_some h
  refine gx_iald (f := (σ.2.2.1 11)) hx hb hK hG (ga_11 g _) hg1 dX2_fullness_5 ?_
  obtain ⟨z2, hc3, h⟩ := bnd_some h
  refine gx_cS (σ' := σ) (r := (some (.int z2))) (rest := []) (As := [.int ((σ.2.2.1 11) (x1.toNatClampNeg))]) hS9 (c_JI_bitCount l g σ ((σ.2.2.1 11) (x1.toNatClampNeg)) z2 hc3) rfl (va_cwS 1 hts (gz_S mw_2_168 mw_2_169 mw_1_12 mw_2_170) rfl rfl rfl hdS_J6_bitCount_0f7a4 ⟨Nat.le_of_ble_eq_true rfl, Nat.le_of_ble_eq_true rfl⟩) hK hG rfl hl.1 rfl (Nat.le_of_ble_eq_true rfl) dX2_fullness_6 (fun H locs hG => ?_)
  refine W.eq (g2 := F0 m 9 ls [.int z2]) rfl ?_
  cases h
  exact gx_iret hx hb hr hlocks hG dX2_fullness_9

set_option maxHeartbeats 4000000 in
set_option maxRecDepth 100000 in
theorem c_Net_roads_10 (l : Launch) (g : GC) (σ : St) (r : Int32) (h : Net_roads (σ.1 641) (σ.2.2.1 11) = some r) : Cn l g yX2_roads (Cond.code yX2_roads cX2_roads 3 (some .int) :: wG) 2 41 [.ref (g.2.1 10)] σ (some (.int r)) σ := by
  unfold Cn
  refine Met.ofW (cc := cX2_roads) (maxL := 3) (ret := (some .int)) (by decide) rfl ?_
  intro p e s m args below meth c s₁ B hml hv
  obtain ⟨hargs, hP0, hK⟩ := hv
  have hx := B.exec
  have hb := B.bytes
  have hr := B.returns
  have hts : ∀ w ∈ wG, w.before args s = true := fun w h => atoms_spec (ws := (Cond.code yX2_roads cX2_roads 3 (some .int) :: wG)) B.pre w (List.mem_cons_of_mem _ h)
  have hown : s.vm.findClass RX2 = some m.cls := findClass_of_methodNamed B.named
  have hlocks := B.notSynchronized
  have hS9 : CallFix p m c cX2_roads 3 s args wG RX2 := ⟨hx, hb, hml, hown, hts⟩
  have hw0 := hts _ mw_1_56
  have hf9 : entryFrame m args 3 = _ := (congrArg (fun a => entryFrame m a 3) hargs).trans (lg_entry_eq m [.ref (g.2.1 10)] 3)
  show Wg p l e 2 41 s m args below meth c g (some (.int r)) σ s.heap [] (entryFrame m args 3)
  rw [hf9]
  have hl := lv_entry ([.ref (g.2.1 10)]) (n := 3) (Nat.le_of_ble_eq_true rfl)
  generalize (lg_sl ([.ref (g.2.1 10)]) ++ List.replicate (3 - (lg_sl ([.ref (g.2.1 10)])).length) Slot.unset).toArray = ls at hl ⊢
  have hl : lv_has ls 3 [(0, .ref (g.2.1 10))] := hl
  have hG : GW g s σ s.heap [] := ⟨hP0, va_S.rf⟩
  unfold Net_roads at h
  have n26 : ∀ (x1 : Int32) (H : Heap) (locs : List Loc) (ls : Array Slot), lv_has ls 3 [(1, .int x1)] → GW g s σ H locs → Net_roads_n26 x1 = some r → Wg p l e 2 41 s m args below meth c g (some (.int r)) σ H locs (F0 m 26 ls []) := by
    intro x1 H locs ls hl hG h
    unfold Net_roads_n26 at h
    refine lv_iload_n hx hb dX2_roads_26 rfl (lv_at hl 0 rfl) ?_
    refine lv_iconst (v := (2 : Int32)) hx hb dX2_roads_27 (by decide) ?_
    refine lv_idiv hx hb dX2_roads_28 (by decide) ?_
    cases h
    exact gx_iret hx hb hr hlocks hG dX2_roads_29
  have n4 : ∀ (k4 : Int32 → Int32 → Option (Int32)) (hk4 : ∀ (x1 : Int32) (x2 : Int32) (H : Heap) (locs : List Loc) (ls : Array Slot), lv_has ls 3 [(0, .ref (g.2.1 10)), (1, .int x1), (2, .int x2)] → GW g s σ H locs → k4 x1 x2 = some r → Wg p l e 2 41 s m args below meth c g (some (.int r)) σ H locs (F0 m 4 ls [])) (x1 : Int32) (x2 : Int32) (H : Heap) (locs : List Loc) (ls : Array Slot), lv_has ls 3 [(0, .ref (g.2.1 10)), (1, .int x1), (2, .int x2)] → GW g s σ H locs → Net_roads_n4 k4 (σ.1 641) (σ.2.2.1 11) x1 x2 = some r → Wg p l e 2 41 s m args below meth c g (some (.int r)) σ H locs (F0 m 4 ls []) := by
    intro k4 hk4 x1 x2 H locs ls hl hG h
    unfold Net_roads_n4 at h
    refine lv_iload_n hx hb dX2_roads_4 rfl (lv_at hl 2 rfl) ?_
    refine lv_aload_n hx hb dX2_roads_5 rfl (lv_at hl 0 rfl) ?_
    refine gx_get (v := .int (σ.1 641)) (C := RX2) (T := TX2) (N := 2) hx hb hts mc_X2 hown hK hG (ga_10 g _) rfl 1 (by decide) hw0 rfl rfl dX2_roads_6 ?_
    refine lv_icmp_ge (tgt := 26) hx hb dX2_roads_9 (by decide) (fun c1 => ?_) (fun c1 => ?_)
    · have h := ite_t c1 h
      exact n26 x1 _ _ _ (lv_sub hl [1] rfl) hG h
    · have h := ite_f c1 h
      refine lv_iload_n hx hb dX2_roads_12 rfl (lv_at hl 1 rfl) ?_
      refine lv_aload_n hx hb dX2_roads_13 rfl (lv_at hl 0 rfl) ?_
      refine lv_iload_n hx hb dX2_roads_14 rfl (lv_at hl 2 rfl) ?_
      obtain ⟨z2, hc3, h⟩ := bnd_some h
      refine gx_cV (σ' := σ) (r := (some (.int z2))) (rest := [.int x1]) (As := [.int x2]) hS9 (c_Net_fullness_10 l g σ x2 z2 hc3) rfl (cwV 1 hts (gz_V mw_2_164 mw_2_165 mw_2_166 mw_1_3 mw_2_167) rfl rfl rfl hdV_X2_fullness ⟨Nat.le_of_ble_eq_true rfl, Nat.le_of_ble_eq_true rfl⟩) hK hG (ga_10 g _) rfl rfl rfl hl.1 rfl (Nat.le_of_ble_eq_true rfl) dX2_roads_15 (fun H locs hG => ?_)
      refine W.eq (g2 := F0 m 18 ls [.int z2, .int x1]) rfl ?_
      refine lv_iadd hx hb dX2_roads_18 ?_
      refine lv_istore_n (lv' := [(1, .int (x1 + z2)), (0, .ref (g.2.1 10)), (2, .int x2)]) hx hb dX2_roads_19 rfl hl (Nat.le_of_ble_eq_true rfl) rfl (fun ls hl => ?_)
      refine lv_iinc (v := (x2 + (1 : Int32))) (lv' := [(2, .int (x2 + (1 : Int32))), (1, .int (x1 + z2)), (0, .ref (g.2.1 10))]) hx hb dX2_roads_20 hl (k := 2) rfl (congrArg (fun z => x2 + z) (by decide)) (Nat.le_of_ble_eq_true rfl) rfl (fun ls hl => ?_)
      refine lv_goto (tgt := 4) hx hb dX2_roads_23 (by decide) ?_
      exact hk4 (x1 + z2) (x2 + (1 : Int32)) _ _ _ (lv_sub hl [2, 1, 0] rfl) hG h
  have l4 : ∀  (F : Nat) (x1 : Int32) (x2 : Int32) (H : Heap) (locs : List Loc) (ls : Array Slot), lv_has ls 3 [(0, .ref (g.2.1 10)), (1, .int x1), (2, .int x2)] → GW g s σ H locs → Net_roads_l4 (σ.1 641) (σ.2.2.1 11) F x1 x2 = some r → Wg p l e 2 41 s m args below meth c g (some (.int r)) σ H locs (F0 m 4 ls []) := by
    intro F
    induction F with
    | zero => intro x1 x2 H locs ls hl hG h; exact no_some h
    | succ F ih => intro x1 x2 H locs ls hl hG h; exact n4 (fun x1 x2 => Net_roads_l4 (σ.1 641) (σ.2.2.1 11) F x1 x2) ih x1 x2 H locs ls hl hG h
  refine lv_iconst (v := (0 : Int32)) hx hb dX2_roads_0 (by decide) ?_
  refine lv_istore_n (lv' := [(1, .int (0 : Int32)), (0, .ref (g.2.1 10))]) hx hb dX2_roads_1 rfl hl (Nat.le_of_ble_eq_true rfl) rfl (fun ls hl => ?_)
  refine lv_iconst (v := (0 : Int32)) hx hb dX2_roads_2 (by decide) ?_
  refine lv_istore_n (lv' := [(2, .int (0 : Int32)), (1, .int (0 : Int32)), (0, .ref (g.2.1 10))]) hx hb dX2_roads_3 rfl hl (Nat.le_of_ble_eq_true rfl) rfl (fun ls hl => ?_)
  exact l4 FUEL (0 : Int32) (0 : Int32) _ _ _ (lv_sub hl [2, 1, 0] rfl) hG h

set_option maxHeartbeats 4000000 in
set_option maxRecDepth 100000 in
theorem c_LN_listRoads (l : Launch) (g : GC) (σ : St) (w_list : Nat → Int32) (w_partner : Nat → Int32) (h : LN_listRoads (σ.1 641) (σ.2.2.1 16) (σ.2.2.1 11) (σ.2.2.1 17) = some (w_list, w_partner)) : Cn l g yX8_listRoads (Cond.code yX8_listRoads cX8_listRoads 4 none :: wG) 2 43 [.ref (g.2.1 0)] σ none (mkS σ [] [] [(16, w_list), (17, w_partner)] []) := by
  unfold Cn
  refine Met.ofW (cc := cX8_listRoads) (maxL := 4) (ret := none) (by decide) rfl ?_
  intro p e s m args below meth c s₁ B hml hv
  obtain ⟨hargs, hP0, hK⟩ := hv
  have hx := B.exec
  have hb := B.bytes
  have hr := B.returns
  have hts : ∀ w ∈ wG, w.before args s = true := fun w h => atoms_spec (ws := (Cond.code yX8_listRoads cX8_listRoads 4 none :: wG)) B.pre w (List.mem_cons_of_mem _ h)
  have hown : s.vm.findClass RX8 = some m.cls := findClass_of_methodNamed B.named
  have hlocks := B.notSynchronized
  have hS9 : CallFix p m c cX8_listRoads 4 s args wG RX8 := ⟨hx, hb, hml, hown, hts⟩
  have hw0 := hts _ mw_2_38
  have hw1 := hts _ mw_1_61
  have hw2 := hts _ mw_2_41
  have hw3 := hts _ mw_2_42
  have hf9 : entryFrame m args 4 = _ := (congrArg (fun a => entryFrame m a 4) hargs).trans (lg_entry_eq m [.ref (g.2.1 0)] 4)
  show Wg p l e 2 43 s m args below meth c g none (mkS σ [] [] [(16, w_list), (17, w_partner)] []) s.heap [] (entryFrame m args 4)
  rw [hf9]
  have hl := lv_entry ([.ref (g.2.1 0)]) (n := 4) (Nat.le_of_ble_eq_true rfl)
  generalize (lg_sl ([.ref (g.2.1 0)]) ++ List.replicate (4 - (lg_sl ([.ref (g.2.1 0)])).length) Slot.unset).toArray = ls at hl ⊢
  have hl : lv_has ls 4 [(0, .ref (g.2.1 0))] := hl
  have hG : GW g s σ s.heap [] := ⟨hP0, va_S.rf⟩
  have hG : GW g s (mkS σ [] [] [(16, (σ.2.2.1 16)), (17, (σ.2.2.1 17))] []) s.heap [] := GW_self [] [] [16, 17] [] hG
  unfold LN_listRoads at h
  have n65 : ∀ (k19 : Int32 → Int32 → Int32 → (Nat → Int32) → (Nat → Int32) → Option ((Nat → Int32) × (Nat → Int32))) (hk19 : ∀ (x1 : Int32) (x2 : Int32) (x3 : Int32) (v_list : Nat → Int32) (v_partner : Nat → Int32) (H : Heap) (locs : List Loc) (ls : Array Slot), lv_has ls 4 [(0, .ref (g.2.1 0)), (1, .int x1), (2, .int x2), (3, .int x3)] → GW g s (mkS σ [] [] [(16, v_list), (17, v_partner)] []) H locs → k19 x1 x2 x3 v_list v_partner = some (w_list, w_partner) → Wg p l e 2 43 s m args below meth c g none (mkS σ [] [] [(16, w_list), (17, w_partner)] []) H locs (F0 m 19 ls [])) (x1 : Int32) (x2 : Int32) (x3 : Int32) (v_list : Nat → Int32) (v_partner : Nat → Int32) (H : Heap) (locs : List Loc) (ls : Array Slot), lv_has ls 4 [(0, .ref (g.2.1 0)), (1, .int x1), (2, .int x2), (3, .int x3)] → GW g s (mkS σ [] [] [(16, v_list), (17, v_partner)] []) H locs → LN_listRoads_n65 k19 x1 x2 x3 v_list v_partner = some (w_list, w_partner) → Wg p l e 2 43 s m args below meth c g none (mkS σ [] [] [(16, w_list), (17, w_partner)] []) H locs (F0 m 65 ls []) := by
    intro k19 hk19 x1 x2 x3 v_list v_partner H locs ls hl hG h
    unfold LN_listRoads_n65 at h
    refine lv_iinc (v := (x3 + (1 : Int32))) (lv' := [(3, .int (x3 + (1 : Int32))), (0, .ref (g.2.1 0)), (1, .int x1), (2, .int x2)]) hx hb dX8_listRoads_65 hl (k := 3) rfl (congrArg (fun z => x3 + z) (by decide)) (Nat.le_of_ble_eq_true rfl) rfl (fun ls hl => ?_)
    refine lv_goto (tgt := 19) hx hb dX8_listRoads_68 (by decide) ?_
    exact hk19 x1 x2 (x3 + (1 : Int32)) v_list v_partner _ _ _ (lv_sub hl [1, 2, 3, 0] rfl) hG h
  have n71 : ∀ (k4 : Int32 → Int32 → (Nat → Int32) → (Nat → Int32) → Option ((Nat → Int32) × (Nat → Int32))) (hk4 : ∀ (x1 : Int32) (x2 : Int32) (v_list : Nat → Int32) (v_partner : Nat → Int32) (H : Heap) (locs : List Loc) (ls : Array Slot), lv_has ls 4 [(0, .ref (g.2.1 0)), (1, .int x1), (2, .int x2)] → GW g s (mkS σ [] [] [(16, v_list), (17, v_partner)] []) H locs → k4 x1 x2 v_list v_partner = some (w_list, w_partner) → Wg p l e 2 43 s m args below meth c g none (mkS σ [] [] [(16, w_list), (17, w_partner)] []) H locs (F0 m 4 ls [])) (x1 : Int32) (x2 : Int32) (v_list : Nat → Int32) (v_partner : Nat → Int32) (H : Heap) (locs : List Loc) (ls : Array Slot), lv_has ls 4 [(0, .ref (g.2.1 0)), (1, .int x1), (2, .int x2)] → GW g s (mkS σ [] [] [(16, v_list), (17, v_partner)] []) H locs → LN_listRoads_n71 k4 x1 x2 v_list v_partner = some (w_list, w_partner) → Wg p l e 2 43 s m args below meth c g none (mkS σ [] [] [(16, w_list), (17, w_partner)] []) H locs (F0 m 71 ls []) := by
    intro k4 hk4 x1 x2 v_list v_partner H locs ls hl hG h
    unfold LN_listRoads_n71 at h
    refine lv_iinc (v := (x2 + (1 : Int32))) (lv' := [(2, .int (x2 + (1 : Int32))), (0, .ref (g.2.1 0)), (1, .int x1)]) hx hb dX8_listRoads_71 hl (k := 2) rfl (congrArg (fun z => x2 + z) (by decide)) (Nat.le_of_ble_eq_true rfl) rfl (fun ls hl => ?_)
    refine lv_goto (tgt := 4) hx hb dX8_listRoads_74 (by decide) ?_
    exact hk4 x1 (x2 + (1 : Int32)) v_list v_partner _ _ _ (lv_sub hl [1, 2, 0] rfl) hG h
  have n19 : ∀ (k4 : Int32 → Int32 → (Nat → Int32) → (Nat → Int32) → Option ((Nat → Int32) × (Nat → Int32))) (hk4 : ∀ (x1 : Int32) (x2 : Int32) (v_list : Nat → Int32) (v_partner : Nat → Int32) (H : Heap) (locs : List Loc) (ls : Array Slot), lv_has ls 4 [(0, .ref (g.2.1 0)), (1, .int x1), (2, .int x2)] → GW g s (mkS σ [] [] [(16, v_list), (17, v_partner)] []) H locs → k4 x1 x2 v_list v_partner = some (w_list, w_partner) → Wg p l e 2 43 s m args below meth c g none (mkS σ [] [] [(16, w_list), (17, w_partner)] []) H locs (F0 m 4 ls [])) (k19 : Int32 → Int32 → Int32 → (Nat → Int32) → (Nat → Int32) → Option ((Nat → Int32) × (Nat → Int32))) (hk19 : ∀ (x1 : Int32) (x2 : Int32) (x3 : Int32) (v_list : Nat → Int32) (v_partner : Nat → Int32) (H : Heap) (locs : List Loc) (ls : Array Slot), lv_has ls 4 [(0, .ref (g.2.1 0)), (1, .int x1), (2, .int x2), (3, .int x3)] → GW g s (mkS σ [] [] [(16, v_list), (17, v_partner)] []) H locs → k19 x1 x2 x3 v_list v_partner = some (w_list, w_partner) → Wg p l e 2 43 s m args below meth c g none (mkS σ [] [] [(16, w_list), (17, w_partner)] []) H locs (F0 m 19 ls [])) (x1 : Int32) (x2 : Int32) (x3 : Int32) (v_list : Nat → Int32) (v_partner : Nat → Int32) (H : Heap) (locs : List Loc) (ls : Array Slot), lv_has ls 4 [(0, .ref (g.2.1 0)), (1, .int x1), (2, .int x2), (3, .int x3)] → GW g s (mkS σ [] [] [(16, v_list), (17, v_partner)] []) H locs → LN_listRoads_n19 k4 k19 (σ.1 641) (σ.2.2.1 11) x1 x2 x3 v_list v_partner = some (w_list, w_partner) → Wg p l e 2 43 s m args below meth c g none (mkS σ [] [] [(16, w_list), (17, w_partner)] []) H locs (F0 m 19 ls []) := by
    intro k4 hk4 k19 hk19 x1 x2 x3 v_list v_partner H locs ls hl hG h
    unfold LN_listRoads_n19 at h
    refine lv_iload_n hx hb dX8_listRoads_19 rfl (lv_at hl 3 rfl) ?_
    refine lv_aload_n hx hb dX8_listRoads_20 rfl (lv_at hl 0 rfl) ?_
    refine gx_get (v := .ref (g.2.1 10)) (C := RX8) (T := TX8) (N := 13) hx hb hts mc_X8 hown hK hG (ga_0 g _) rfl 1 (by decide) hw0 rfl rfl dX8_listRoads_21 ?_
    refine gx_get (v := .int (σ.1 641)) (C := RX2) (T := TX2) (N := 2) hx hb hts mc_X2 hown hK hG (ga_10 g _) rfl 1 (by decide) hw1 rfl rfl dX8_listRoads_24 ?_
    refine lv_icmp_ge (tgt := 71) hx hb dX8_listRoads_27 (by decide) (fun c1 => ?_) (fun c1 => ?_)
    · have h := ite_t c1 h
      exact n71 k4 hk4 x1 x2 v_list v_partner _ _ _ (lv_sub hl [0, 1, 2] rfl) hG h
    · have h := ite_f c1 h
      refine lv_aload_n hx hb dX8_listRoads_30 rfl (lv_at hl 0 rfl) ?_
      refine gx_get (v := .ref (g.2.1 10)) (C := RX8) (T := TX8) (N := 13) hx hb hts mc_X8 hown hK hG (ga_0 g _) rfl 1 (by decide) hw0 rfl rfl dX8_listRoads_31 ?_
      refine lv_iload_n hx hb dX8_listRoads_34 rfl (lv_at hl 2 rfl) ?_
      refine lv_iload_n hx hb dX8_listRoads_35 rfl (lv_at hl 3 rfl) ?_
      obtain ⟨z2, hc3, h⟩ := bnd_some h
      refine gx_cV (σ' := (mkS σ [] [] [(16, v_list), (17, v_partner)] [])) (r := (some (.int z2))) (rest := []) (As := [.int x2, .int x3]) hS9 (c_Net_areJoined_10 l g (mkS σ [] [] [(16, v_list), (17, v_partner)] []) x2 x3 z2 hc3) rfl (cwV 2 hts (gz_V mw_2_130 mw_2_131 mw_2_132 mw_1_3 mw_2_133) rfl rfl rfl hdV_X2_areJoined ⟨Nat.le_of_ble_eq_true rfl, Nat.le_of_ble_eq_true rfl⟩) hK hG (ga_10 g _) rfl rfl rfl hl.1 rfl (Nat.le_of_ble_eq_true rfl) dX8_listRoads_36 (fun H locs hG => ?_)
      refine W.eq (g2 := F0 m 39 ls [.int z2]) rfl ?_
      refine lv_if_eq (tgt := 65) hx hb dX8_listRoads_39 (by decide) (fun c4 => ?_) (fun c4 => ?_)
      · have h := ite_t c4 h
        exact n65 k19 hk19 x1 x2 x3 v_list v_partner _ _ _ (lv_sub hl [0, 1, 2, 3] rfl) hG h
      · have h := ite_f c4 h
        refine lv_iload_n hx hb dX8_listRoads_42 rfl (lv_at hl 1 rfl) ?_
        refine lv_bipush (v := (32 : Int32)) hx hb dX8_listRoads_43 (by decide) ?_
        refine lv_icmp_ge (tgt := 65) hx hb dX8_listRoads_45 (by decide) (fun c5 => ?_) (fun c5 => ?_)
        · have h := ite_t c5 h
          exact n65 k19 hk19 x1 x2 x3 v_list v_partner _ _ _ (lv_sub hl [0, 1, 2, 3] rfl) hG h
        · have h := ite_f c5 h
          refine lv_aload_n hx hb dX8_listRoads_48 rfl (lv_at hl 0 rfl) ?_
          refine gx_get (v := .ref (g.2.1 16)) (C := RX8) (T := TX8) (N := 13) hx hb hts mc_X8 hown hK hG (ga_0 g _) rfl 4 (by decide) hw2 rfl rfl dX8_listRoads_49 ?_
          refine lv_iload_n hx hb dX8_listRoads_52 rfl (lv_at hl 1 rfl) ?_
          refine lv_iload_n hx hb dX8_listRoads_53 rfl (lv_at hl 2 rfl) ?_
          obtain ⟨hg6, h⟩ := gd_some h
          refine gx_iast (σ' := (mkS σ [] [] [(16, (upd v_list (x1.toNatClampNeg) x2)), (17, v_partner)] [])) (f := v_list) hx hb hK hG (ga_16 g _) hg6 ((gs_16 g _ _).trans (congrArg (g_cells g) (mk_c 0 rfl rfl))) dX8_listRoads_54 (fun H locs hG => ?_)
          refine lv_aload_n hx hb dX8_listRoads_55 rfl (lv_at hl 0 rfl) ?_
          refine gx_get (v := .ref (g.2.1 17)) (C := RX8) (T := TX8) (N := 13) hx hb hts mc_X8 hown hK hG (ga_0 g _) rfl 5 (by decide) hw3 rfl rfl dX8_listRoads_56 ?_
          refine lv_iload_n hx hb dX8_listRoads_59 rfl (lv_at hl 1 rfl) ?_
          refine lv_iload_n hx hb dX8_listRoads_60 rfl (lv_at hl 3 rfl) ?_
          refine gx_iast (σ' := (mkS σ [] [] [(16, (upd v_list (x1.toNatClampNeg) x2)), (17, (upd v_partner (x1.toNatClampNeg) x3))] [])) (f := v_partner) hx hb hK hG (ga_17 g _) hg6 ((gs_17 g _ _).trans (congrArg (g_cells g) (mk_c 1 rfl rfl))) dX8_listRoads_61 (fun H locs hG => ?_)
          refine lv_iinc (v := (x1 + (1 : Int32))) (lv' := [(1, .int (x1 + (1 : Int32))), (0, .ref (g.2.1 0)), (2, .int x2), (3, .int x3)]) hx hb dX8_listRoads_62 hl (k := 1) rfl (congrArg (fun z => x1 + z) (by decide)) (Nat.le_of_ble_eq_true rfl) rfl (fun ls hl => ?_)
          exact n65 k19 hk19 (x1 + (1 : Int32)) x2 x3 (upd v_list (x1.toNatClampNeg) x2) (upd v_partner (x1.toNatClampNeg) x3) _ _ _ (lv_sub hl [1, 0, 2, 3] rfl) hG h
  have l19 : ∀ (k4 : Int32 → Int32 → (Nat → Int32) → (Nat → Int32) → Option ((Nat → Int32) × (Nat → Int32))) (hk4 : ∀ (x1 : Int32) (x2 : Int32) (v_list : Nat → Int32) (v_partner : Nat → Int32) (H : Heap) (locs : List Loc) (ls : Array Slot), lv_has ls 4 [(0, .ref (g.2.1 0)), (1, .int x1), (2, .int x2)] → GW g s (mkS σ [] [] [(16, v_list), (17, v_partner)] []) H locs → k4 x1 x2 v_list v_partner = some (w_list, w_partner) → Wg p l e 2 43 s m args below meth c g none (mkS σ [] [] [(16, w_list), (17, w_partner)] []) H locs (F0 m 4 ls [])) (F : Nat) (x1 : Int32) (x2 : Int32) (x3 : Int32) (v_list : Nat → Int32) (v_partner : Nat → Int32) (H : Heap) (locs : List Loc) (ls : Array Slot), lv_has ls 4 [(0, .ref (g.2.1 0)), (1, .int x1), (2, .int x2), (3, .int x3)] → GW g s (mkS σ [] [] [(16, v_list), (17, v_partner)] []) H locs → LN_listRoads_l19 k4 (σ.1 641) (σ.2.2.1 11) F x1 x2 x3 v_list v_partner = some (w_list, w_partner) → Wg p l e 2 43 s m args below meth c g none (mkS σ [] [] [(16, w_list), (17, w_partner)] []) H locs (F0 m 19 ls []) := by
    intro k4 hk4 F
    induction F with
    | zero => intro x1 x2 x3 v_list v_partner H locs ls hl hG h; exact no_some h
    | succ F ih => intro x1 x2 x3 v_list v_partner H locs ls hl hG h; exact n19 k4 hk4 (fun x1 x2 x3 v_list v_partner => LN_listRoads_l19 k4 (σ.1 641) (σ.2.2.1 11) F x1 x2 x3 v_list v_partner) ih x1 x2 x3 v_list v_partner H locs ls hl hG h
  have n77 : ∀ (v_list : Nat → Int32) (v_partner : Nat → Int32) (H : Heap) (locs : List Loc) (ls : Array Slot), lv_has ls 4 [] → GW g s (mkS σ [] [] [(16, v_list), (17, v_partner)] []) H locs → LN_listRoads_n77 v_list v_partner = some (w_list, w_partner) → Wg p l e 2 43 s m args below meth c g none (mkS σ [] [] [(16, w_list), (17, w_partner)] []) H locs (F0 m 77 ls []) := by
    intro v_list v_partner H locs ls hl hG h
    unfold LN_listRoads_n77 at h
    cases h
    exact gx_vret hx hb hr hlocks hG dX8_listRoads_77
  have n4 : ∀ (k4 : Int32 → Int32 → (Nat → Int32) → (Nat → Int32) → Option ((Nat → Int32) × (Nat → Int32))) (hk4 : ∀ (x1 : Int32) (x2 : Int32) (v_list : Nat → Int32) (v_partner : Nat → Int32) (H : Heap) (locs : List Loc) (ls : Array Slot), lv_has ls 4 [(0, .ref (g.2.1 0)), (1, .int x1), (2, .int x2)] → GW g s (mkS σ [] [] [(16, v_list), (17, v_partner)] []) H locs → k4 x1 x2 v_list v_partner = some (w_list, w_partner) → Wg p l e 2 43 s m args below meth c g none (mkS σ [] [] [(16, w_list), (17, w_partner)] []) H locs (F0 m 4 ls [])) (x1 : Int32) (x2 : Int32) (v_list : Nat → Int32) (v_partner : Nat → Int32) (H : Heap) (locs : List Loc) (ls : Array Slot), lv_has ls 4 [(0, .ref (g.2.1 0)), (1, .int x1), (2, .int x2)] → GW g s (mkS σ [] [] [(16, v_list), (17, v_partner)] []) H locs → LN_listRoads_n4 k4 (σ.1 641) (σ.2.2.1 11) x1 x2 v_list v_partner = some (w_list, w_partner) → Wg p l e 2 43 s m args below meth c g none (mkS σ [] [] [(16, w_list), (17, w_partner)] []) H locs (F0 m 4 ls []) := by
    intro k4 hk4 x1 x2 v_list v_partner H locs ls hl hG h
    unfold LN_listRoads_n4 at h
    refine lv_iload_n hx hb dX8_listRoads_4 rfl (lv_at hl 2 rfl) ?_
    refine lv_aload_n hx hb dX8_listRoads_5 rfl (lv_at hl 0 rfl) ?_
    refine gx_get (v := .ref (g.2.1 10)) (C := RX8) (T := TX8) (N := 13) hx hb hts mc_X8 hown hK hG (ga_0 g _) rfl 1 (by decide) hw0 rfl rfl dX8_listRoads_6 ?_
    refine gx_get (v := .int (σ.1 641)) (C := RX2) (T := TX2) (N := 2) hx hb hts mc_X2 hown hK hG (ga_10 g _) rfl 1 (by decide) hw1 rfl rfl dX8_listRoads_9 ?_
    refine lv_icmp_ge (tgt := 77) hx hb dX8_listRoads_12 (by decide) (fun c7 => ?_) (fun c7 => ?_)
    · have h := ite_t c7 h
      exact n77 v_list v_partner _ _ _ (lv_sub hl [] rfl) hG h
    · have h := ite_f c7 h
      refine lv_iload_n hx hb dX8_listRoads_15 rfl (lv_at hl 2 rfl) ?_
      refine lv_iconst (v := (1 : Int32)) hx hb dX8_listRoads_16 (by decide) ?_
      refine lv_iadd hx hb dX8_listRoads_17 ?_
      refine lv_istore_n (lv' := [(3, .int (x2 + (1 : Int32))), (0, .ref (g.2.1 0)), (1, .int x1), (2, .int x2)]) hx hb dX8_listRoads_18 rfl hl (Nat.le_of_ble_eq_true rfl) rfl (fun ls hl => ?_)
      exact l19 k4 hk4 FUEL x1 x2 (x2 + (1 : Int32)) v_list v_partner _ _ _ (lv_sub hl [1, 2, 3, 0] rfl) hG h
  have l4 : ∀  (F : Nat) (x1 : Int32) (x2 : Int32) (v_list : Nat → Int32) (v_partner : Nat → Int32) (H : Heap) (locs : List Loc) (ls : Array Slot), lv_has ls 4 [(0, .ref (g.2.1 0)), (1, .int x1), (2, .int x2)] → GW g s (mkS σ [] [] [(16, v_list), (17, v_partner)] []) H locs → LN_listRoads_l4 (σ.1 641) (σ.2.2.1 11) F x1 x2 v_list v_partner = some (w_list, w_partner) → Wg p l e 2 43 s m args below meth c g none (mkS σ [] [] [(16, w_list), (17, w_partner)] []) H locs (F0 m 4 ls []) := by
    intro F
    induction F with
    | zero => intro x1 x2 v_list v_partner H locs ls hl hG h; exact no_some h
    | succ F ih => intro x1 x2 v_list v_partner H locs ls hl hG h; exact n4 (fun x1 x2 v_list v_partner => LN_listRoads_l4 (σ.1 641) (σ.2.2.1 11) F x1 x2 v_list v_partner) ih x1 x2 v_list v_partner H locs ls hl hG h
  refine lv_iconst (v := (0 : Int32)) hx hb dX8_listRoads_0 (by decide) ?_
  refine lv_istore_n (lv' := [(1, .int (0 : Int32)), (0, .ref (g.2.1 0))]) hx hb dX8_listRoads_1 rfl hl (Nat.le_of_ble_eq_true rfl) rfl (fun ls hl => ?_)
  refine lv_iconst (v := (0 : Int32)) hx hb dX8_listRoads_2 (by decide) ?_
  refine lv_istore_n (lv' := [(2, .int (0 : Int32)), (1, .int (0 : Int32)), (0, .ref (g.2.1 0))]) hx hb dX8_listRoads_3 rfl hl (Nat.le_of_ble_eq_true rfl) rfl (fun ls hl => ?_)
  exact l4 FUEL (0 : Int32) (0 : Int32) (σ.2.2.1 16) (σ.2.2.1 17) _ _ _ (lv_sub hl [2, 1, 0] rfl) hG h

set_option maxHeartbeats 4000000 in
set_option maxRecDepth 100000 in
theorem c_LN_lines (l : Launch) (g : GC) (σ : St) (r : Int32) (w_likeness_ready : Int32) (w_made_size : Int32) (w_now_size : Int32) (w_pairs_ready : Int32) (w_search_reach : Int32) (w_ways_ready : Int32) (w_list : Nat → Int32) (w_made_near : Nat → Int32) (w_now_near : Nat → Int32) (w_partner : Nat → Int32) (h : LN_lines (σ.1 1539) (σ.1 769) (σ.1 641) (σ.1 2632) (σ.1 2372) (σ.1 1283) (σ.2.2.1 16) (σ.2.2.1 13) (σ.2.2.1 11) (σ.2.2.1 17) = some (r, w_likeness_ready, w_made_size, w_now_size, w_pairs_ready, w_search_reach, w_ways_ready, w_list, w_made_near, w_now_near, w_partner)) : Cn l g yX8_lines (Cond.code yX8_lines cX8_lines 4 (some .int) :: wG) 3 101 [.ref (g.2.1 0)] σ (some (.int r)) (mkS σ [(1539, w_likeness_ready), (769, w_made_size), (641, w_now_size), (2632, w_pairs_ready), (2372, w_search_reach), (1283, w_ways_ready)] [] [(16, w_list), (13, w_made_near), (11, w_now_near), (17, w_partner)] []) := by
  unfold Cn
  refine Met.ofW (cc := cX8_lines) (maxL := 4) (ret := (some .int)) (by decide) rfl ?_
  intro p e s m args below meth c s₁ B hml hv
  obtain ⟨hargs, hP0, hK⟩ := hv
  have hx := B.exec
  have hb := B.bytes
  have hr := B.returns
  have hts : ∀ w ∈ wG, w.before args s = true := fun w h => atoms_spec (ws := (Cond.code yX8_lines cX8_lines 4 (some .int) :: wG)) B.pre w (List.mem_cons_of_mem _ h)
  have hown : s.vm.findClass RX8 = some m.cls := findClass_of_methodNamed B.named
  have hlocks := B.notSynchronized
  have hS9 : CallFix p m c cX8_lines 4 s args wG RX8 := ⟨hx, hb, hml, hown, hts⟩
  have hw0 := hts _ mw_2_39
  have hw1 := hts _ mw_2_41
  have hw2 := hts _ mw_2_42
  have hw3 := hts _ mw_2_38
  have hf9 : entryFrame m args 4 = _ := (congrArg (fun a => entryFrame m a 4) hargs).trans (lg_entry_eq m [.ref (g.2.1 0)] 4)
  show Wg p l e 3 101 s m args below meth c g (some (.int r)) (mkS σ [(1539, w_likeness_ready), (769, w_made_size), (641, w_now_size), (2632, w_pairs_ready), (2372, w_search_reach), (1283, w_ways_ready)] [] [(16, w_list), (13, w_made_near), (11, w_now_near), (17, w_partner)] []) s.heap [] (entryFrame m args 4)
  rw [hf9]
  have hl := lv_entry ([.ref (g.2.1 0)]) (n := 4) (Nat.le_of_ble_eq_true rfl)
  generalize (lg_sl ([.ref (g.2.1 0)]) ++ List.replicate (4 - (lg_sl ([.ref (g.2.1 0)])).length) Slot.unset).toArray = ls at hl ⊢
  have hl : lv_has ls 4 [(0, .ref (g.2.1 0))] := hl
  have hG : GW g s σ s.heap [] := ⟨hP0, va_S.rf⟩
  have hG : GW g s (mkS σ [(1539, (σ.1 1539)), (769, (σ.1 769)), (641, (σ.1 641)), (2632, (σ.1 2632)), (2372, (σ.1 2372)), (1283, (σ.1 1283))] [] [(16, (σ.2.2.1 16)), (13, (σ.2.2.1 13)), (11, (σ.2.2.1 11)), (17, (σ.2.2.1 17))] []) s.heap [] := GW_self [1539, 769, 641, 2632, 2372, 1283] [] [16, 13, 11, 17] [] hG
  unfold LN_lines at h
  have n114 : ∀ (k40 : Int32 → Int32 → Int32 → Int32 → Int32 → Int32 → Int32 → Int32 → Int32 → (Nat → Int32) → (Nat → Int32) → (Nat → Int32) → (Nat → Int32) → Option (Int32 × Int32 × Int32 × Int32 × Int32 × Int32 × Int32 × (Nat → Int32) × (Nat → Int32) × (Nat → Int32) × (Nat → Int32))) (hk40 : ∀ (x1 : Int32) (x2 : Int32) (x3 : Int32) (v_likeness_ready : Int32) (v_made_size : Int32) (v_now_size : Int32) (v_pairs_ready : Int32) (v_search_reach : Int32) (v_ways_ready : Int32) (v_list : Nat → Int32) (v_made_near : Nat → Int32) (v_now_near : Nat → Int32) (v_partner : Nat → Int32) (H : Heap) (locs : List Loc) (ls : Array Slot), lv_has ls 4 [(0, .ref (g.2.1 0)), (1, .int x1), (2, .int x2), (3, .int x3)] → GW g s (mkS σ [(1539, v_likeness_ready), (769, v_made_size), (641, v_now_size), (2632, v_pairs_ready), (2372, v_search_reach), (1283, v_ways_ready)] [] [(16, v_list), (13, v_made_near), (11, v_now_near), (17, v_partner)] []) H locs → k40 x1 x2 x3 v_likeness_ready v_made_size v_now_size v_pairs_ready v_search_reach v_ways_ready v_list v_made_near v_now_near v_partner = some (r, w_likeness_ready, w_made_size, w_now_size, w_pairs_ready, w_search_reach, w_ways_ready, w_list, w_made_near, w_now_near, w_partner) → Wg p l e 3 101 s m args below meth c g (some (.int r)) (mkS σ [(1539, w_likeness_ready), (769, w_made_size), (641, w_now_size), (2632, w_pairs_ready), (2372, w_search_reach), (1283, w_ways_ready)] [] [(16, w_list), (13, w_made_near), (11, w_now_near), (17, w_partner)] []) H locs (F0 m 40 ls [])) (x1 : Int32) (x2 : Int32) (x3 : Int32) (v_likeness_ready : Int32) (v_made_size : Int32) (v_now_size : Int32) (v_pairs_ready : Int32) (v_search_reach : Int32) (v_ways_ready : Int32) (v_list : Nat → Int32) (v_made_near : Nat → Int32) (v_now_near : Nat → Int32) (v_partner : Nat → Int32) (H : Heap) (locs : List Loc) (ls : Array Slot), lv_has ls 4 [(0, .ref (g.2.1 0)), (1, .int x1), (2, .int x2), (3, .int x3)] → GW g s (mkS σ [(1539, v_likeness_ready), (769, v_made_size), (641, v_now_size), (2632, v_pairs_ready), (2372, v_search_reach), (1283, v_ways_ready)] [] [(16, v_list), (13, v_made_near), (11, v_now_near), (17, v_partner)] []) H locs → LN_lines_n114 k40 x1 x2 x3 v_likeness_ready v_made_size v_now_size v_pairs_ready v_search_reach v_ways_ready v_list v_made_near v_now_near v_partner = some (r, w_likeness_ready, w_made_size, w_now_size, w_pairs_ready, w_search_reach, w_ways_ready, w_list, w_made_near, w_now_near, w_partner) → Wg p l e 3 101 s m args below meth c g (some (.int r)) (mkS σ [(1539, w_likeness_ready), (769, w_made_size), (641, w_now_size), (2632, w_pairs_ready), (2372, w_search_reach), (1283, w_ways_ready)] [] [(16, w_list), (13, w_made_near), (11, w_now_near), (17, w_partner)] []) H locs (F0 m 114 ls []) := by
    intro k40 hk40 x1 x2 x3 v_likeness_ready v_made_size v_now_size v_pairs_ready v_search_reach v_ways_ready v_list v_made_near v_now_near v_partner H locs ls hl hG h
    unfold LN_lines_n114 at h
    refine lv_iinc (v := (x3 + (1 : Int32))) (lv' := [(3, .int (x3 + (1 : Int32))), (0, .ref (g.2.1 0)), (1, .int x1), (2, .int x2)]) hx hb dX8_lines_114 hl (k := 3) rfl (congrArg (fun z => x3 + z) (by decide)) (Nat.le_of_ble_eq_true rfl) rfl (fun ls hl => ?_)
    refine lv_goto (tgt := 40) hx hb dX8_lines_117 (by decide) ?_
    exact hk40 x1 x2 (x3 + (1 : Int32)) v_likeness_ready v_made_size v_now_size v_pairs_ready v_search_reach v_ways_ready v_list v_made_near v_now_near v_partner _ _ _ (lv_sub hl [1, 2, 3, 0] rfl) hG h
  have n105 : ∀ (k40 : Int32 → Int32 → Int32 → Int32 → Int32 → Int32 → Int32 → Int32 → Int32 → (Nat → Int32) → (Nat → Int32) → (Nat → Int32) → (Nat → Int32) → Option (Int32 × Int32 × Int32 × Int32 × Int32 × Int32 × Int32 × (Nat → Int32) × (Nat → Int32) × (Nat → Int32) × (Nat → Int32))) (hk40 : ∀ (x1 : Int32) (x2 : Int32) (x3 : Int32) (v_likeness_ready : Int32) (v_made_size : Int32) (v_now_size : Int32) (v_pairs_ready : Int32) (v_search_reach : Int32) (v_ways_ready : Int32) (v_list : Nat → Int32) (v_made_near : Nat → Int32) (v_now_near : Nat → Int32) (v_partner : Nat → Int32) (H : Heap) (locs : List Loc) (ls : Array Slot), lv_has ls 4 [(0, .ref (g.2.1 0)), (1, .int x1), (2, .int x2), (3, .int x3)] → GW g s (mkS σ [(1539, v_likeness_ready), (769, v_made_size), (641, v_now_size), (2632, v_pairs_ready), (2372, v_search_reach), (1283, v_ways_ready)] [] [(16, v_list), (13, v_made_near), (11, v_now_near), (17, v_partner)] []) H locs → k40 x1 x2 x3 v_likeness_ready v_made_size v_now_size v_pairs_ready v_search_reach v_ways_ready v_list v_made_near v_now_near v_partner = some (r, w_likeness_ready, w_made_size, w_now_size, w_pairs_ready, w_search_reach, w_ways_ready, w_list, w_made_near, w_now_near, w_partner) → Wg p l e 3 101 s m args below meth c g (some (.int r)) (mkS σ [(1539, w_likeness_ready), (769, w_made_size), (641, w_now_size), (2632, w_pairs_ready), (2372, w_search_reach), (1283, w_ways_ready)] [] [(16, w_list), (13, w_made_near), (11, w_now_near), (17, w_partner)] []) H locs (F0 m 40 ls [])) (x1 : Int32) (x2 : Int32) (x3 : Int32) (v_likeness_ready : Int32) (v_made_size : Int32) (v_now_size : Int32) (v_pairs_ready : Int32) (v_search_reach : Int32) (v_ways_ready : Int32) (v_list : Nat → Int32) (v_made_near : Nat → Int32) (v_now_near : Nat → Int32) (v_partner : Nat → Int32) (H : Heap) (locs : List Loc) (ls : Array Slot), lv_has ls 4 [(0, .ref (g.2.1 0)), (1, .int x1), (2, .int x2), (3, .int x3)] → GW g s (mkS σ [(1539, v_likeness_ready), (769, v_made_size), (641, v_now_size), (2632, v_pairs_ready), (2372, v_search_reach), (1283, v_ways_ready)] [] [(16, v_list), (13, v_made_near), (11, v_now_near), (17, v_partner)] []) H locs → LN_lines_n105 k40 x1 x2 x3 v_likeness_ready v_made_size v_now_size v_pairs_ready v_search_reach v_ways_ready v_list v_made_near v_now_near v_partner = some (r, w_likeness_ready, w_made_size, w_now_size, w_pairs_ready, w_search_reach, w_ways_ready, w_list, w_made_near, w_now_near, w_partner) → Wg p l e 3 101 s m args below meth c g (some (.int r)) (mkS σ [(1539, w_likeness_ready), (769, w_made_size), (641, w_now_size), (2632, w_pairs_ready), (2372, w_search_reach), (1283, w_ways_ready)] [] [(16, w_list), (13, w_made_near), (11, w_now_near), (17, w_partner)] []) H locs (F0 m 105 ls []) := by
    intro k40 hk40 x1 x2 x3 v_likeness_ready v_made_size v_now_size v_pairs_ready v_search_reach v_ways_ready v_list v_made_near v_now_near v_partner H locs ls hl hG h
    unfold LN_lines_n105 at h
    refine lv_aload_n hx hb dX8_lines_105 rfl (lv_at hl 0 rfl) ?_
    refine gx_get (v := .ref (g.2.1 12)) (C := RX8) (T := TX8) (N := 13) hx hb hts mc_X8 hown hK hG (ga_0 g _) rfl 2 (by decide) hw0 rfl rfl dX8_lines_106 ?_
    refine lv_iload_n hx hb dX8_lines_109 rfl (lv_at hl 2 rfl) ?_
    refine lv_iload_n hx hb dX8_lines_110 rfl (lv_at hl 3 rfl) ?_
    obtain ⟨z1, hc2, h⟩ := bnd_some h
    refine gx_cV (σ' := (mkS σ [(1539, v_likeness_ready), (769, v_made_size), (641, v_now_size), (2632, v_pairs_ready), (2372, v_search_reach), (1283, v_ways_ready)] [] [(16, v_list), (13, z1), (11, v_now_near), (17, v_partner)] [])) (r := none) (rest := []) (As := [.int x2, .int x3]) hS9 (c_Net_join_12 l g (mkS σ [(1539, v_likeness_ready), (769, v_made_size), (641, v_now_size), (2632, v_pairs_ready), (2372, v_search_reach), (1283, v_ways_ready)] [] [(16, v_list), (13, v_made_near), (11, v_now_near), (17, v_partner)] []) x2 x3 z1 hc2) (mk_mk rfl rfl rfl rfl) (cwV 2 hts (gz_V mw_2_137 mw_2_138 mw_2_139 mw_1_3 mw_2_140) rfl rfl rfl hdV_X2_join ⟨Nat.le_of_ble_eq_true rfl, Nat.le_of_ble_eq_true rfl⟩) hK hG (ga_12 g _) rfl rfl rfl hl.1 rfl (Nat.le_of_ble_eq_true rfl) dX8_lines_111 (fun H locs hG => ?_)
    refine W.eq (g2 := F0 m 114 ls []) rfl ?_
    exact n114 k40 hk40 x1 x2 x3 v_likeness_ready v_made_size v_now_size v_pairs_ready v_search_reach v_ways_ready v_list z1 v_now_near v_partner _ _ _ (lv_sub hl [0, 1, 2, 3] rfl) hG h
  have n120 : ∀ (k31 : Int32 → Int32 → Int32 → Int32 → Int32 → Int32 → Int32 → Int32 → (Nat → Int32) → (Nat → Int32) → (Nat → Int32) → (Nat → Int32) → Option (Int32 × Int32 × Int32 × Int32 × Int32 × Int32 × Int32 × (Nat → Int32) × (Nat → Int32) × (Nat → Int32) × (Nat → Int32))) (hk31 : ∀ (x1 : Int32) (x2 : Int32) (v_likeness_ready : Int32) (v_made_size : Int32) (v_now_size : Int32) (v_pairs_ready : Int32) (v_search_reach : Int32) (v_ways_ready : Int32) (v_list : Nat → Int32) (v_made_near : Nat → Int32) (v_now_near : Nat → Int32) (v_partner : Nat → Int32) (H : Heap) (locs : List Loc) (ls : Array Slot), lv_has ls 4 [(0, .ref (g.2.1 0)), (1, .int x1), (2, .int x2)] → GW g s (mkS σ [(1539, v_likeness_ready), (769, v_made_size), (641, v_now_size), (2632, v_pairs_ready), (2372, v_search_reach), (1283, v_ways_ready)] [] [(16, v_list), (13, v_made_near), (11, v_now_near), (17, v_partner)] []) H locs → k31 x1 x2 v_likeness_ready v_made_size v_now_size v_pairs_ready v_search_reach v_ways_ready v_list v_made_near v_now_near v_partner = some (r, w_likeness_ready, w_made_size, w_now_size, w_pairs_ready, w_search_reach, w_ways_ready, w_list, w_made_near, w_now_near, w_partner) → Wg p l e 3 101 s m args below meth c g (some (.int r)) (mkS σ [(1539, w_likeness_ready), (769, w_made_size), (641, w_now_size), (2632, w_pairs_ready), (2372, w_search_reach), (1283, w_ways_ready)] [] [(16, w_list), (13, w_made_near), (11, w_now_near), (17, w_partner)] []) H locs (F0 m 31 ls [])) (x1 : Int32) (x2 : Int32) (v_likeness_ready : Int32) (v_made_size : Int32) (v_now_size : Int32) (v_pairs_ready : Int32) (v_search_reach : Int32) (v_ways_ready : Int32) (v_list : Nat → Int32) (v_made_near : Nat → Int32) (v_now_near : Nat → Int32) (v_partner : Nat → Int32) (H : Heap) (locs : List Loc) (ls : Array Slot), lv_has ls 4 [(0, .ref (g.2.1 0)), (1, .int x1), (2, .int x2)] → GW g s (mkS σ [(1539, v_likeness_ready), (769, v_made_size), (641, v_now_size), (2632, v_pairs_ready), (2372, v_search_reach), (1283, v_ways_ready)] [] [(16, v_list), (13, v_made_near), (11, v_now_near), (17, v_partner)] []) H locs → LN_lines_n120 k31 x1 x2 v_likeness_ready v_made_size v_now_size v_pairs_ready v_search_reach v_ways_ready v_list v_made_near v_now_near v_partner = some (r, w_likeness_ready, w_made_size, w_now_size, w_pairs_ready, w_search_reach, w_ways_ready, w_list, w_made_near, w_now_near, w_partner) → Wg p l e 3 101 s m args below meth c g (some (.int r)) (mkS σ [(1539, w_likeness_ready), (769, w_made_size), (641, w_now_size), (2632, w_pairs_ready), (2372, w_search_reach), (1283, w_ways_ready)] [] [(16, w_list), (13, w_made_near), (11, w_now_near), (17, w_partner)] []) H locs (F0 m 120 ls []) := by
    intro k31 hk31 x1 x2 v_likeness_ready v_made_size v_now_size v_pairs_ready v_search_reach v_ways_ready v_list v_made_near v_now_near v_partner H locs ls hl hG h
    unfold LN_lines_n120 at h
    refine lv_iinc (v := (x2 + (1 : Int32))) (lv' := [(2, .int (x2 + (1 : Int32))), (0, .ref (g.2.1 0)), (1, .int x1)]) hx hb dX8_lines_120 hl (k := 2) rfl (congrArg (fun z => x2 + z) (by decide)) (Nat.le_of_ble_eq_true rfl) rfl (fun ls hl => ?_)
    refine lv_goto (tgt := 31) hx hb dX8_lines_123 (by decide) ?_
    exact hk31 x1 (x2 + (1 : Int32)) v_likeness_ready v_made_size v_now_size v_pairs_ready v_search_reach v_ways_ready v_list v_made_near v_now_near v_partner _ _ _ (lv_sub hl [1, 2, 0] rfl) hG h
  have n40 : ∀ (k31 : Int32 → Int32 → Int32 → Int32 → Int32 → Int32 → Int32 → Int32 → (Nat → Int32) → (Nat → Int32) → (Nat → Int32) → (Nat → Int32) → Option (Int32 × Int32 × Int32 × Int32 × Int32 × Int32 × Int32 × (Nat → Int32) × (Nat → Int32) × (Nat → Int32) × (Nat → Int32))) (hk31 : ∀ (x1 : Int32) (x2 : Int32) (v_likeness_ready : Int32) (v_made_size : Int32) (v_now_size : Int32) (v_pairs_ready : Int32) (v_search_reach : Int32) (v_ways_ready : Int32) (v_list : Nat → Int32) (v_made_near : Nat → Int32) (v_now_near : Nat → Int32) (v_partner : Nat → Int32) (H : Heap) (locs : List Loc) (ls : Array Slot), lv_has ls 4 [(0, .ref (g.2.1 0)), (1, .int x1), (2, .int x2)] → GW g s (mkS σ [(1539, v_likeness_ready), (769, v_made_size), (641, v_now_size), (2632, v_pairs_ready), (2372, v_search_reach), (1283, v_ways_ready)] [] [(16, v_list), (13, v_made_near), (11, v_now_near), (17, v_partner)] []) H locs → k31 x1 x2 v_likeness_ready v_made_size v_now_size v_pairs_ready v_search_reach v_ways_ready v_list v_made_near v_now_near v_partner = some (r, w_likeness_ready, w_made_size, w_now_size, w_pairs_ready, w_search_reach, w_ways_ready, w_list, w_made_near, w_now_near, w_partner) → Wg p l e 3 101 s m args below meth c g (some (.int r)) (mkS σ [(1539, w_likeness_ready), (769, w_made_size), (641, w_now_size), (2632, w_pairs_ready), (2372, w_search_reach), (1283, w_ways_ready)] [] [(16, w_list), (13, w_made_near), (11, w_now_near), (17, w_partner)] []) H locs (F0 m 31 ls [])) (k40 : Int32 → Int32 → Int32 → Int32 → Int32 → Int32 → Int32 → Int32 → Int32 → (Nat → Int32) → (Nat → Int32) → (Nat → Int32) → (Nat → Int32) → Option (Int32 × Int32 × Int32 × Int32 × Int32 × Int32 × Int32 × (Nat → Int32) × (Nat → Int32) × (Nat → Int32) × (Nat → Int32))) (hk40 : ∀ (x1 : Int32) (x2 : Int32) (x3 : Int32) (v_likeness_ready : Int32) (v_made_size : Int32) (v_now_size : Int32) (v_pairs_ready : Int32) (v_search_reach : Int32) (v_ways_ready : Int32) (v_list : Nat → Int32) (v_made_near : Nat → Int32) (v_now_near : Nat → Int32) (v_partner : Nat → Int32) (H : Heap) (locs : List Loc) (ls : Array Slot), lv_has ls 4 [(0, .ref (g.2.1 0)), (1, .int x1), (2, .int x2), (3, .int x3)] → GW g s (mkS σ [(1539, v_likeness_ready), (769, v_made_size), (641, v_now_size), (2632, v_pairs_ready), (2372, v_search_reach), (1283, v_ways_ready)] [] [(16, v_list), (13, v_made_near), (11, v_now_near), (17, v_partner)] []) H locs → k40 x1 x2 x3 v_likeness_ready v_made_size v_now_size v_pairs_ready v_search_reach v_ways_ready v_list v_made_near v_now_near v_partner = some (r, w_likeness_ready, w_made_size, w_now_size, w_pairs_ready, w_search_reach, w_ways_ready, w_list, w_made_near, w_now_near, w_partner) → Wg p l e 3 101 s m args below meth c g (some (.int r)) (mkS σ [(1539, w_likeness_ready), (769, w_made_size), (641, w_now_size), (2632, w_pairs_ready), (2372, w_search_reach), (1283, w_ways_ready)] [] [(16, w_list), (13, w_made_near), (11, w_now_near), (17, w_partner)] []) H locs (F0 m 40 ls [])) (x1 : Int32) (x2 : Int32) (x3 : Int32) (v_likeness_ready : Int32) (v_made_size : Int32) (v_now_size : Int32) (v_pairs_ready : Int32) (v_search_reach : Int32) (v_ways_ready : Int32) (v_list : Nat → Int32) (v_made_near : Nat → Int32) (v_now_near : Nat → Int32) (v_partner : Nat → Int32) (H : Heap) (locs : List Loc) (ls : Array Slot), lv_has ls 4 [(0, .ref (g.2.1 0)), (1, .int x1), (2, .int x2), (3, .int x3)] → GW g s (mkS σ [(1539, v_likeness_ready), (769, v_made_size), (641, v_now_size), (2632, v_pairs_ready), (2372, v_search_reach), (1283, v_ways_ready)] [] [(16, v_list), (13, v_made_near), (11, v_now_near), (17, v_partner)] []) H locs → LN_lines_n40 k31 k40 x1 x2 x3 v_likeness_ready v_made_size v_now_size v_pairs_ready v_search_reach v_ways_ready v_list v_made_near v_now_near v_partner = some (r, w_likeness_ready, w_made_size, w_now_size, w_pairs_ready, w_search_reach, w_ways_ready, w_list, w_made_near, w_now_near, w_partner) → Wg p l e 3 101 s m args below meth c g (some (.int r)) (mkS σ [(1539, w_likeness_ready), (769, w_made_size), (641, w_now_size), (2632, w_pairs_ready), (2372, w_search_reach), (1283, w_ways_ready)] [] [(16, w_list), (13, w_made_near), (11, w_now_near), (17, w_partner)] []) H locs (F0 m 40 ls []) := by
    intro k31 hk31 k40 hk40 x1 x2 x3 v_likeness_ready v_made_size v_now_size v_pairs_ready v_search_reach v_ways_ready v_list v_made_near v_now_near v_partner H locs ls hl hG h
    unfold LN_lines_n40 at h
    refine lv_iload_n hx hb dX8_lines_40 rfl (lv_at hl 3 rfl) ?_
    refine lv_iload_n hx hb dX8_lines_41 rfl (lv_at hl 1 rfl) ?_
    refine lv_icmp_ge (tgt := 120) hx hb dX8_lines_42 (by decide) (fun c3 => ?_) (fun c3 => ?_)
    · have h := ite_t c3 h
      exact n120 k31 hk31 x1 x2 v_likeness_ready v_made_size v_now_size v_pairs_ready v_search_reach v_ways_ready v_list v_made_near v_now_near v_partner _ _ _ (lv_sub hl [0, 1, 2] rfl) hG h
    · have h := ite_f c3 h
      refine lv_aload_n hx hb dX8_lines_45 rfl (lv_at hl 0 rfl) ?_
      refine gx_get (v := .ref (g.2.1 16)) (C := RX8) (T := TX8) (N := 13) hx hb hts mc_X8 hown hK hG (ga_0 g _) rfl 4 (by decide) hw1 rfl rfl dX8_lines_46 ?_
      refine lv_iload_n hx hb dX8_lines_49 rfl (lv_at hl 2 rfl) ?_
      obtain ⟨hg4, h⟩ := gd_some h
      refine gx_iald (f := v_list) hx hb hK hG (ga_16 g _) hg4 dX8_lines_50 ?_
      refine lv_aload_n hx hb dX8_lines_51 rfl (lv_at hl 0 rfl) ?_
      refine gx_get (v := .ref (g.2.1 16)) (C := RX8) (T := TX8) (N := 13) hx hb hts mc_X8 hown hK hG (ga_0 g _) rfl 4 (by decide) hw1 rfl rfl dX8_lines_52 ?_
      refine lv_iload_n hx hb dX8_lines_55 rfl (lv_at hl 3 rfl) ?_
      obtain ⟨hg5, h⟩ := gd_some h
      refine gx_iald (f := v_list) hx hb hK hG (ga_16 g _) hg5 dX8_lines_56 ?_
      refine lv_icmp_eq (tgt := 105) hx hb dX8_lines_57 (by decide) (fun c6 => ?_) (fun c6 => ?_)
      · have h := ite_t c6 h
        exact n105 k40 hk40 x1 x2 x3 v_likeness_ready v_made_size v_now_size v_pairs_ready v_search_reach v_ways_ready v_list v_made_near v_now_near v_partner _ _ _ (lv_sub hl [0, 1, 2, 3] rfl) hG h
      · have h := ite_f c6 h
        refine lv_aload_n hx hb dX8_lines_60 rfl (lv_at hl 0 rfl) ?_
        refine gx_get (v := .ref (g.2.1 16)) (C := RX8) (T := TX8) (N := 13) hx hb hts mc_X8 hown hK hG (ga_0 g _) rfl 4 (by decide) hw1 rfl rfl dX8_lines_61 ?_
        refine lv_iload_n hx hb dX8_lines_64 rfl (lv_at hl 2 rfl) ?_
        refine gx_iald (f := v_list) hx hb hK hG (ga_16 g _) hg4 dX8_lines_65 ?_
        refine lv_aload_n hx hb dX8_lines_66 rfl (lv_at hl 0 rfl) ?_
        refine gx_get (v := .ref (g.2.1 17)) (C := RX8) (T := TX8) (N := 13) hx hb hts mc_X8 hown hK hG (ga_0 g _) rfl 5 (by decide) hw2 rfl rfl dX8_lines_67 ?_
        refine lv_iload_n hx hb dX8_lines_70 rfl (lv_at hl 3 rfl) ?_
        refine gx_iald (f := v_partner) hx hb hK hG (ga_17 g _) hg5 dX8_lines_71 ?_
        refine lv_icmp_eq (tgt := 105) hx hb dX8_lines_72 (by decide) (fun c7 => ?_) (fun c7 => ?_)
        · have h := ite_t c7 h
          exact n105 k40 hk40 x1 x2 x3 v_likeness_ready v_made_size v_now_size v_pairs_ready v_search_reach v_ways_ready v_list v_made_near v_now_near v_partner _ _ _ (lv_sub hl [0, 1, 2, 3] rfl) hG h
        · have h := ite_f c7 h
          refine lv_aload_n hx hb dX8_lines_75 rfl (lv_at hl 0 rfl) ?_
          refine gx_get (v := .ref (g.2.1 17)) (C := RX8) (T := TX8) (N := 13) hx hb hts mc_X8 hown hK hG (ga_0 g _) rfl 5 (by decide) hw2 rfl rfl dX8_lines_76 ?_
          refine lv_iload_n hx hb dX8_lines_79 rfl (lv_at hl 2 rfl) ?_
          refine gx_iald (f := v_partner) hx hb hK hG (ga_17 g _) hg4 dX8_lines_80 ?_
          refine lv_aload_n hx hb dX8_lines_81 rfl (lv_at hl 0 rfl) ?_
          refine gx_get (v := .ref (g.2.1 16)) (C := RX8) (T := TX8) (N := 13) hx hb hts mc_X8 hown hK hG (ga_0 g _) rfl 4 (by decide) hw1 rfl rfl dX8_lines_82 ?_
          refine lv_iload_n hx hb dX8_lines_85 rfl (lv_at hl 3 rfl) ?_
          refine gx_iald (f := v_list) hx hb hK hG (ga_16 g _) hg5 dX8_lines_86 ?_
          refine lv_icmp_eq (tgt := 105) hx hb dX8_lines_87 (by decide) (fun c8 => ?_) (fun c8 => ?_)
          · have h := ite_t c8 h
            exact n105 k40 hk40 x1 x2 x3 v_likeness_ready v_made_size v_now_size v_pairs_ready v_search_reach v_ways_ready v_list v_made_near v_now_near v_partner _ _ _ (lv_sub hl [0, 1, 2, 3] rfl) hG h
          · have h := ite_f c8 h
            refine lv_aload_n hx hb dX8_lines_90 rfl (lv_at hl 0 rfl) ?_
            refine gx_get (v := .ref (g.2.1 17)) (C := RX8) (T := TX8) (N := 13) hx hb hts mc_X8 hown hK hG (ga_0 g _) rfl 5 (by decide) hw2 rfl rfl dX8_lines_91 ?_
            refine lv_iload_n hx hb dX8_lines_94 rfl (lv_at hl 2 rfl) ?_
            refine gx_iald (f := v_partner) hx hb hK hG (ga_17 g _) hg4 dX8_lines_95 ?_
            refine lv_aload_n hx hb dX8_lines_96 rfl (lv_at hl 0 rfl) ?_
            refine gx_get (v := .ref (g.2.1 17)) (C := RX8) (T := TX8) (N := 13) hx hb hts mc_X8 hown hK hG (ga_0 g _) rfl 5 (by decide) hw2 rfl rfl dX8_lines_97 ?_
            refine lv_iload_n hx hb dX8_lines_100 rfl (lv_at hl 3 rfl) ?_
            refine gx_iald (f := v_partner) hx hb hK hG (ga_17 g _) hg5 dX8_lines_101 ?_
            refine lv_icmp_ne (tgt := 114) hx hb dX8_lines_102 (by decide) (fun c9 => ?_) (fun c9 => ?_)
            · have h := ite_f c9 h
              exact n114 k40 hk40 x1 x2 x3 v_likeness_ready v_made_size v_now_size v_pairs_ready v_search_reach v_ways_ready v_list v_made_near v_now_near v_partner _ _ _ (lv_sub hl [0, 1, 2, 3] rfl) hG h
            · have h := ite_t c9 h
              exact n105 k40 hk40 x1 x2 x3 v_likeness_ready v_made_size v_now_size v_pairs_ready v_search_reach v_ways_ready v_list v_made_near v_now_near v_partner _ _ _ (lv_sub hl [0, 1, 2, 3] rfl) hG h
  have l40 : ∀ (k31 : Int32 → Int32 → Int32 → Int32 → Int32 → Int32 → Int32 → Int32 → (Nat → Int32) → (Nat → Int32) → (Nat → Int32) → (Nat → Int32) → Option (Int32 × Int32 × Int32 × Int32 × Int32 × Int32 × Int32 × (Nat → Int32) × (Nat → Int32) × (Nat → Int32) × (Nat → Int32))) (hk31 : ∀ (x1 : Int32) (x2 : Int32) (v_likeness_ready : Int32) (v_made_size : Int32) (v_now_size : Int32) (v_pairs_ready : Int32) (v_search_reach : Int32) (v_ways_ready : Int32) (v_list : Nat → Int32) (v_made_near : Nat → Int32) (v_now_near : Nat → Int32) (v_partner : Nat → Int32) (H : Heap) (locs : List Loc) (ls : Array Slot), lv_has ls 4 [(0, .ref (g.2.1 0)), (1, .int x1), (2, .int x2)] → GW g s (mkS σ [(1539, v_likeness_ready), (769, v_made_size), (641, v_now_size), (2632, v_pairs_ready), (2372, v_search_reach), (1283, v_ways_ready)] [] [(16, v_list), (13, v_made_near), (11, v_now_near), (17, v_partner)] []) H locs → k31 x1 x2 v_likeness_ready v_made_size v_now_size v_pairs_ready v_search_reach v_ways_ready v_list v_made_near v_now_near v_partner = some (r, w_likeness_ready, w_made_size, w_now_size, w_pairs_ready, w_search_reach, w_ways_ready, w_list, w_made_near, w_now_near, w_partner) → Wg p l e 3 101 s m args below meth c g (some (.int r)) (mkS σ [(1539, w_likeness_ready), (769, w_made_size), (641, w_now_size), (2632, w_pairs_ready), (2372, w_search_reach), (1283, w_ways_ready)] [] [(16, w_list), (13, w_made_near), (11, w_now_near), (17, w_partner)] []) H locs (F0 m 31 ls [])) (F : Nat) (x1 : Int32) (x2 : Int32) (x3 : Int32) (v_likeness_ready : Int32) (v_made_size : Int32) (v_now_size : Int32) (v_pairs_ready : Int32) (v_search_reach : Int32) (v_ways_ready : Int32) (v_list : Nat → Int32) (v_made_near : Nat → Int32) (v_now_near : Nat → Int32) (v_partner : Nat → Int32) (H : Heap) (locs : List Loc) (ls : Array Slot), lv_has ls 4 [(0, .ref (g.2.1 0)), (1, .int x1), (2, .int x2), (3, .int x3)] → GW g s (mkS σ [(1539, v_likeness_ready), (769, v_made_size), (641, v_now_size), (2632, v_pairs_ready), (2372, v_search_reach), (1283, v_ways_ready)] [] [(16, v_list), (13, v_made_near), (11, v_now_near), (17, v_partner)] []) H locs → LN_lines_l40 k31 F x1 x2 x3 v_likeness_ready v_made_size v_now_size v_pairs_ready v_search_reach v_ways_ready v_list v_made_near v_now_near v_partner = some (r, w_likeness_ready, w_made_size, w_now_size, w_pairs_ready, w_search_reach, w_ways_ready, w_list, w_made_near, w_now_near, w_partner) → Wg p l e 3 101 s m args below meth c g (some (.int r)) (mkS σ [(1539, w_likeness_ready), (769, w_made_size), (641, w_now_size), (2632, w_pairs_ready), (2372, w_search_reach), (1283, w_ways_ready)] [] [(16, w_list), (13, w_made_near), (11, w_now_near), (17, w_partner)] []) H locs (F0 m 40 ls []) := by
    intro k31 hk31 F
    induction F with
    | zero => intro x1 x2 x3 v_likeness_ready v_made_size v_now_size v_pairs_ready v_search_reach v_ways_ready v_list v_made_near v_now_near v_partner H locs ls hl hG h; exact no_some h
    | succ F ih => intro x1 x2 x3 v_likeness_ready v_made_size v_now_size v_pairs_ready v_search_reach v_ways_ready v_list v_made_near v_now_near v_partner H locs ls hl hG h; exact n40 k31 hk31 (fun x1 x2 x3 v_likeness_ready v_made_size v_now_size v_pairs_ready v_search_reach v_ways_ready v_list v_made_near v_now_near v_partner => LN_lines_l40 k31 F x1 x2 x3 v_likeness_ready v_made_size v_now_size v_pairs_ready v_search_reach v_ways_ready v_list v_made_near v_now_near v_partner) ih x1 x2 x3 v_likeness_ready v_made_size v_now_size v_pairs_ready v_search_reach v_ways_ready v_list v_made_near v_now_near v_partner H locs ls hl hG h
  have n126 : ∀ (v_likeness_ready : Int32) (v_made_size : Int32) (v_now_size : Int32) (v_pairs_ready : Int32) (v_search_reach : Int32) (v_ways_ready : Int32) (v_list : Nat → Int32) (v_made_near : Nat → Int32) (v_now_near : Nat → Int32) (v_partner : Nat → Int32) (H : Heap) (locs : List Loc) (ls : Array Slot), lv_has ls 4 [(0, .ref (g.2.1 0))] → GW g s (mkS σ [(1539, v_likeness_ready), (769, v_made_size), (641, v_now_size), (2632, v_pairs_ready), (2372, v_search_reach), (1283, v_ways_ready)] [] [(16, v_list), (13, v_made_near), (11, v_now_near), (17, v_partner)] []) H locs → LN_lines_n126 v_likeness_ready v_made_size v_now_size v_pairs_ready v_search_reach v_ways_ready v_list v_made_near v_now_near v_partner = some (r, w_likeness_ready, w_made_size, w_now_size, w_pairs_ready, w_search_reach, w_ways_ready, w_list, w_made_near, w_now_near, w_partner) → Wg p l e 3 101 s m args below meth c g (some (.int r)) (mkS σ [(1539, w_likeness_ready), (769, w_made_size), (641, w_now_size), (2632, w_pairs_ready), (2372, w_search_reach), (1283, w_ways_ready)] [] [(16, w_list), (13, w_made_near), (11, w_now_near), (17, w_partner)] []) H locs (F0 m 126 ls []) := by
    intro v_likeness_ready v_made_size v_now_size v_pairs_ready v_search_reach v_ways_ready v_list v_made_near v_now_near v_partner H locs ls hl hG h
    unfold LN_lines_n126 at h
    refine lv_aload_n hx hb dX8_lines_126 rfl (lv_at hl 0 rfl) ?_
    obtain ⟨z10, hc11, h⟩ := bnd_some h
    refine gx_cV (σ' := (mkS σ [(1539, z10.2.1), (769, v_made_size), (641, z10.2.2.1), (2632, z10.2.2.2.1), (2372, z10.2.2.2.2.1), (1283, z10.2.2.2.2.2.1)] [] [(16, v_list), (13, v_made_near), (11, z10.2.2.2.2.2.2), (17, v_partner)] [])) (r := (some (.int z10.1))) (rest := []) (As := []) hS9 (c_LN_adopt l g (mkS σ [(1539, v_likeness_ready), (769, v_made_size), (641, v_now_size), (2632, v_pairs_ready), (2372, v_search_reach), (1283, v_ways_ready)] [] [(16, v_list), (13, v_made_near), (11, v_now_near), (17, v_partner)] []) z10.1 z10.2.1 z10.2.2.1 z10.2.2.2.1 z10.2.2.2.2.1 z10.2.2.2.2.2.1 z10.2.2.2.2.2.2 hc11) (mk_mk rfl rfl rfl rfl) (cwV 0 hts (gz_V mw_2_229 mw_2_231 ms_1_5 mw_1_1 mw_2_232) rfl rfl rfl hdV_X8_adopt ⟨Nat.le_of_ble_eq_true rfl, Nat.le_of_ble_eq_true rfl⟩) hK hG (ga_0 g _) rfl rfl rfl hl.1 rfl (Nat.le_of_ble_eq_true rfl) dX8_lines_127 (fun H locs hG => ?_)
    refine W.eq (g2 := F0 m 130 ls [.int z10.1]) rfl ?_
    cases h
    exact gx_iret hx hb hr hlocks hG dX8_lines_130
  have n31 : ∀ (k31 : Int32 → Int32 → Int32 → Int32 → Int32 → Int32 → Int32 → Int32 → (Nat → Int32) → (Nat → Int32) → (Nat → Int32) → (Nat → Int32) → Option (Int32 × Int32 × Int32 × Int32 × Int32 × Int32 × Int32 × (Nat → Int32) × (Nat → Int32) × (Nat → Int32) × (Nat → Int32))) (hk31 : ∀ (x1 : Int32) (x2 : Int32) (v_likeness_ready : Int32) (v_made_size : Int32) (v_now_size : Int32) (v_pairs_ready : Int32) (v_search_reach : Int32) (v_ways_ready : Int32) (v_list : Nat → Int32) (v_made_near : Nat → Int32) (v_now_near : Nat → Int32) (v_partner : Nat → Int32) (H : Heap) (locs : List Loc) (ls : Array Slot), lv_has ls 4 [(0, .ref (g.2.1 0)), (1, .int x1), (2, .int x2)] → GW g s (mkS σ [(1539, v_likeness_ready), (769, v_made_size), (641, v_now_size), (2632, v_pairs_ready), (2372, v_search_reach), (1283, v_ways_ready)] [] [(16, v_list), (13, v_made_near), (11, v_now_near), (17, v_partner)] []) H locs → k31 x1 x2 v_likeness_ready v_made_size v_now_size v_pairs_ready v_search_reach v_ways_ready v_list v_made_near v_now_near v_partner = some (r, w_likeness_ready, w_made_size, w_now_size, w_pairs_ready, w_search_reach, w_ways_ready, w_list, w_made_near, w_now_near, w_partner) → Wg p l e 3 101 s m args below meth c g (some (.int r)) (mkS σ [(1539, w_likeness_ready), (769, w_made_size), (641, w_now_size), (2632, w_pairs_ready), (2372, w_search_reach), (1283, w_ways_ready)] [] [(16, w_list), (13, w_made_near), (11, w_now_near), (17, w_partner)] []) H locs (F0 m 31 ls [])) (x1 : Int32) (x2 : Int32) (v_likeness_ready : Int32) (v_made_size : Int32) (v_now_size : Int32) (v_pairs_ready : Int32) (v_search_reach : Int32) (v_ways_ready : Int32) (v_list : Nat → Int32) (v_made_near : Nat → Int32) (v_now_near : Nat → Int32) (v_partner : Nat → Int32) (H : Heap) (locs : List Loc) (ls : Array Slot), lv_has ls 4 [(0, .ref (g.2.1 0)), (1, .int x1), (2, .int x2)] → GW g s (mkS σ [(1539, v_likeness_ready), (769, v_made_size), (641, v_now_size), (2632, v_pairs_ready), (2372, v_search_reach), (1283, v_ways_ready)] [] [(16, v_list), (13, v_made_near), (11, v_now_near), (17, v_partner)] []) H locs → LN_lines_n31 k31 x1 x2 v_likeness_ready v_made_size v_now_size v_pairs_ready v_search_reach v_ways_ready v_list v_made_near v_now_near v_partner = some (r, w_likeness_ready, w_made_size, w_now_size, w_pairs_ready, w_search_reach, w_ways_ready, w_list, w_made_near, w_now_near, w_partner) → Wg p l e 3 101 s m args below meth c g (some (.int r)) (mkS σ [(1539, w_likeness_ready), (769, w_made_size), (641, w_now_size), (2632, w_pairs_ready), (2372, w_search_reach), (1283, w_ways_ready)] [] [(16, w_list), (13, w_made_near), (11, w_now_near), (17, w_partner)] []) H locs (F0 m 31 ls []) := by
    intro k31 hk31 x1 x2 v_likeness_ready v_made_size v_now_size v_pairs_ready v_search_reach v_ways_ready v_list v_made_near v_now_near v_partner H locs ls hl hG h
    unfold LN_lines_n31 at h
    refine lv_iload_n hx hb dX8_lines_31 rfl (lv_at hl 2 rfl) ?_
    refine lv_iload_n hx hb dX8_lines_32 rfl (lv_at hl 1 rfl) ?_
    refine lv_icmp_ge (tgt := 126) hx hb dX8_lines_33 (by decide) (fun c12 => ?_) (fun c12 => ?_)
    · have h := ite_t c12 h
      exact n126 v_likeness_ready v_made_size v_now_size v_pairs_ready v_search_reach v_ways_ready v_list v_made_near v_now_near v_partner _ _ _ (lv_sub hl [0] rfl) hG h
    · have h := ite_f c12 h
      refine lv_iload_n hx hb dX8_lines_36 rfl (lv_at hl 2 rfl) ?_
      refine lv_iconst (v := (1 : Int32)) hx hb dX8_lines_37 (by decide) ?_
      refine lv_iadd hx hb dX8_lines_38 ?_
      refine lv_istore_n (lv' := [(3, .int (x2 + (1 : Int32))), (0, .ref (g.2.1 0)), (1, .int x1), (2, .int x2)]) hx hb dX8_lines_39 rfl hl (Nat.le_of_ble_eq_true rfl) rfl (fun ls hl => ?_)
      exact l40 k31 hk31 FUEL x1 x2 (x2 + (1 : Int32)) v_likeness_ready v_made_size v_now_size v_pairs_ready v_search_reach v_ways_ready v_list v_made_near v_now_near v_partner _ _ _ (lv_sub hl [1, 2, 3, 0] rfl) hG h
  have l31 : ∀  (F : Nat) (x1 : Int32) (x2 : Int32) (v_likeness_ready : Int32) (v_made_size : Int32) (v_now_size : Int32) (v_pairs_ready : Int32) (v_search_reach : Int32) (v_ways_ready : Int32) (v_list : Nat → Int32) (v_made_near : Nat → Int32) (v_now_near : Nat → Int32) (v_partner : Nat → Int32) (H : Heap) (locs : List Loc) (ls : Array Slot), lv_has ls 4 [(0, .ref (g.2.1 0)), (1, .int x1), (2, .int x2)] → GW g s (mkS σ [(1539, v_likeness_ready), (769, v_made_size), (641, v_now_size), (2632, v_pairs_ready), (2372, v_search_reach), (1283, v_ways_ready)] [] [(16, v_list), (13, v_made_near), (11, v_now_near), (17, v_partner)] []) H locs → LN_lines_l31 F x1 x2 v_likeness_ready v_made_size v_now_size v_pairs_ready v_search_reach v_ways_ready v_list v_made_near v_now_near v_partner = some (r, w_likeness_ready, w_made_size, w_now_size, w_pairs_ready, w_search_reach, w_ways_ready, w_list, w_made_near, w_now_near, w_partner) → Wg p l e 3 101 s m args below meth c g (some (.int r)) (mkS σ [(1539, w_likeness_ready), (769, w_made_size), (641, w_now_size), (2632, w_pairs_ready), (2372, w_search_reach), (1283, w_ways_ready)] [] [(16, w_list), (13, w_made_near), (11, w_now_near), (17, w_partner)] []) H locs (F0 m 31 ls []) := by
    intro F
    induction F with
    | zero => intro x1 x2 v_likeness_ready v_made_size v_now_size v_pairs_ready v_search_reach v_ways_ready v_list v_made_near v_now_near v_partner H locs ls hl hG h; exact no_some h
    | succ F ih => intro x1 x2 v_likeness_ready v_made_size v_now_size v_pairs_ready v_search_reach v_ways_ready v_list v_made_near v_now_near v_partner H locs ls hl hG h; exact n31 (fun x1 x2 v_likeness_ready v_made_size v_now_size v_pairs_ready v_search_reach v_ways_ready v_list v_made_near v_now_near v_partner => LN_lines_l31 F x1 x2 v_likeness_ready v_made_size v_now_size v_pairs_ready v_search_reach v_ways_ready v_list v_made_near v_now_near v_partner) ih x1 x2 v_likeness_ready v_made_size v_now_size v_pairs_ready v_search_reach v_ways_ready v_list v_made_near v_now_near v_partner H locs ls hl hG h
  refine lv_aload_n hx hb dX8_lines_0 rfl (lv_at hl 0 rfl) ?_
  refine gx_get (v := .ref (g.2.1 10)) (C := RX8) (T := TX8) (N := 13) hx hb hts mc_X8 hown hK hG (ga_0 g _) rfl 1 (by decide) hw3 rfl rfl dX8_lines_1 ?_
  obtain ⟨z13, hc14, h⟩ := bnd_some h
  refine gx_cV (σ' := (mkS σ [(1539, (σ.1 1539)), (769, (σ.1 769)), (641, (σ.1 641)), (2632, (σ.1 2632)), (2372, (σ.1 2372)), (1283, (σ.1 1283))] [] [(16, (σ.2.2.1 16)), (13, (σ.2.2.1 13)), (11, (σ.2.2.1 11)), (17, (σ.2.2.1 17))] [])) (r := (some (.int z13))) (rest := []) (As := []) hS9 (c_Net_roads_10 l g (mkS σ [(1539, (σ.1 1539)), (769, (σ.1 769)), (641, (σ.1 641)), (2632, (σ.1 2632)), (2372, (σ.1 2372)), (1283, (σ.1 1283))] [] [(16, (σ.2.2.1 16)), (13, (σ.2.2.1 13)), (11, (σ.2.2.1 11)), (17, (σ.2.2.1 17))] []) z13 hc14) rfl (cwV 0 hts (gz_V mw_2_160 mw_2_161 mw_2_162 mw_1_3 mw_2_163) rfl rfl rfl hdV_X2_roads ⟨Nat.le_of_ble_eq_true rfl, Nat.le_of_ble_eq_true rfl⟩) hK hG (ga_10 g _) rfl rfl rfl hl.1 rfl (Nat.le_of_ble_eq_true rfl) dX8_lines_4 (fun H locs hG => ?_)
  refine W.eq (g2 := F0 m 7 ls [.int z13]) rfl ?_
  refine lv_istore_n (lv' := [(1, .int z13), (0, .ref (g.2.1 0))]) hx hb dX8_lines_7 rfl hl (Nat.le_of_ble_eq_true rfl) rfl (fun ls hl => ?_)
  refine lv_iload_n hx hb dX8_lines_8 rfl (lv_at hl 0 rfl) ?_
  refine lv_bipush (v := (32 : Int32)) hx hb dX8_lines_9 (by decide) ?_
  refine lv_icmp_le (tgt := 17) hx hb dX8_lines_11 (by decide) (fun c15 => ?_) (fun c15 => ?_)
  · have h := ite_t c15 h
    refine lv_aload_n hx hb dX8_lines_17 rfl (lv_at hl 1 rfl) ?_
    obtain ⟨z16, hc17, h⟩ := bnd_some h
    refine gx_cV (σ' := (mkS σ [(1539, (σ.1 1539)), (769, (σ.1 769)), (641, (σ.1 641)), (2632, (σ.1 2632)), (2372, (σ.1 2372)), (1283, (σ.1 1283))] [] [(16, z16.1), (13, (σ.2.2.1 13)), (11, (σ.2.2.1 11)), (17, z16.2)] [])) (r := none) (rest := []) (As := []) hS9 (c_LN_listRoads l g (mkS σ [(1539, (σ.1 1539)), (769, (σ.1 769)), (641, (σ.1 641)), (2632, (σ.1 2632)), (2372, (σ.1 2372)), (1283, (σ.1 1283))] [] [(16, (σ.2.2.1 16)), (13, (σ.2.2.1 13)), (11, (σ.2.2.1 11)), (17, (σ.2.2.1 17))] []) z16.1 z16.2 hc17) (mk_mk rfl rfl rfl rfl) (cwV 0 hts (gz_V mw_4_36 mw_4_38 ms_2_9 mw_1_1 mw_4_39) rfl rfl rfl hdV_X8_listRoads ⟨Nat.le_of_ble_eq_true rfl, Nat.le_of_ble_eq_true rfl⟩) hK hG (ga_0 g _) rfl rfl rfl hl.1 rfl (Nat.le_of_ble_eq_true rfl) dX8_lines_18 (fun H locs hG => ?_)
    refine W.eq (g2 := F0 m 21 ls []) rfl ?_
    refine lv_aload_n hx hb dX8_lines_21 rfl (lv_at hl 1 rfl) ?_
    refine gx_get (v := .ref (g.2.1 12)) (C := RX8) (T := TX8) (N := 13) hx hb hts mc_X8 hown hK hG (ga_0 g _) rfl 2 (by decide) hw0 rfl rfl dX8_lines_22 ?_
    refine lv_iload_n hx hb dX8_lines_25 rfl (lv_at hl 0 rfl) ?_
    obtain ⟨z18, hc19, h⟩ := bnd_some h
    refine gx_cV (σ' := (mkS σ [(1539, (σ.1 1539)), (769, z18.1), (641, (σ.1 641)), (2632, (σ.1 2632)), (2372, (σ.1 2372)), (1283, (σ.1 1283))] [] [(16, z16.1), (13, z18.2), (11, (σ.2.2.1 11)), (17, z16.2)] [])) (r := none) (rest := []) (As := [.int z13]) hS9 (c_Net_empty_12 l g (mkS σ [(1539, (σ.1 1539)), (769, (σ.1 769)), (641, (σ.1 641)), (2632, (σ.1 2632)), (2372, (σ.1 2372)), (1283, (σ.1 1283))] [] [(16, z16.1), (13, (σ.2.2.1 13)), (11, (σ.2.2.1 11)), (17, z16.2)] []) z13 z18.1 z18.2 hc19) (mk_mk rfl rfl rfl rfl) (cwV 1 hts (gz_V mw_2_109 mw_2_110 mw_2_111 mw_1_3 mw_2_112) rfl rfl rfl hdV_X2_empty ⟨Nat.le_of_ble_eq_true rfl, Nat.le_of_ble_eq_true rfl⟩) hK hG (ga_12 g _) rfl rfl rfl hl.1 rfl (Nat.le_of_ble_eq_true rfl) dX8_lines_26 (fun H locs hG => ?_)
    refine W.eq (g2 := F0 m 29 ls []) rfl ?_
    refine lv_iconst (v := (0 : Int32)) hx hb dX8_lines_29 (by decide) ?_
    refine lv_istore_n (lv' := [(2, .int (0 : Int32)), (1, .int z13), (0, .ref (g.2.1 0))]) hx hb dX8_lines_30 rfl hl (Nat.le_of_ble_eq_true rfl) rfl (fun ls hl => ?_)
    exact l31 FUEL z13 (0 : Int32) (σ.1 1539) z18.1 (σ.1 641) (σ.1 2632) (σ.1 2372) (σ.1 1283) z16.1 z18.2 (σ.2.2.1 11) z16.2 _ _ _ (lv_sub hl [2, 1, 0] rfl) hG h
  · have h := ite_f c15 h
    refine lv_bipush (v := (-2 : Int32)) hx hb dX8_lines_14 (by decide) ?_
    cases h
    exact gx_iret hx hb hr hlocks hG dX8_lines_16

set_option maxHeartbeats 4000000 in
set_option maxRecDepth 100000 in
theorem c_Sh_read_2 (l : Launch) (g : GC) (σ : St) (x1 : Int32) (r : Int32) (h : Sh_read x1 (σ.1 131) (σ.2.2.1 3) = some r) : Cn l g yX5_read (Cond.code yX5_read cX5_read 2 (some .int) :: wG) 1 21 [.ref (g.2.1 2), .int x1] σ (some (.int r)) σ := by
  unfold Cn
  refine Met.ofW (cc := cX5_read) (maxL := 2) (ret := (some .int)) (by decide) rfl ?_
  intro p e s m args below meth c s₁ B hml hv
  obtain ⟨hargs, hP0, hK⟩ := hv
  have hx := B.exec
  have hb := B.bytes
  have hr := B.returns
  have hts : ∀ w ∈ wG, w.before args s = true := fun w h => atoms_spec (ws := (Cond.code yX5_read cX5_read 2 (some .int) :: wG)) B.pre w (List.mem_cons_of_mem _ h)
  have hown : s.vm.findClass RX5 = some m.cls := findClass_of_methodNamed B.named
  have hlocks := B.notSynchronized
  have hS9 : CallFix p m c cX5_read 2 s args wG RX5 := ⟨hx, hb, hml, hown, hts⟩
  have hw0 := hts _ mw_1_31
  have hf9 : entryFrame m args 2 = _ := (congrArg (fun a => entryFrame m a 2) hargs).trans (lg_entry_eq m [.ref (g.2.1 2), .int x1] 2)
  show Wg p l e 1 21 s m args below meth c g (some (.int r)) σ s.heap [] (entryFrame m args 2)
  rw [hf9]
  have hl := lv_entry ([.ref (g.2.1 2), .int x1]) (n := 2) (Nat.le_of_ble_eq_true rfl)
  generalize (lg_sl ([.ref (g.2.1 2), .int x1]) ++ List.replicate (2 - (lg_sl ([.ref (g.2.1 2), .int x1])).length) Slot.unset).toArray = ls at hl ⊢
  have hl : lv_has ls 2 [(0, .ref (g.2.1 2)), (1, .int x1)] := hl
  have hG : GW g s σ s.heap [] := ⟨hP0, va_S.rf⟩
  unfold Sh_read at h
  have n18 : ∀ (t0 : Int32) (H : Heap) (locs : List Loc) (ls : Array Slot), lv_has ls 2 [] → GW g s σ H locs → Sh_read_n18 t0 = some r → Wg p l e 1 21 s m args below meth c g (some (.int r)) σ H locs (F0 m 18 ls [.int t0]) := by
    intro t0 H locs ls hl hG h
    unfold Sh_read_n18 at h
    cases h
    exact gx_iret hx hb hr hlocks hG dX5_read_18
  refine lv_aload_n hx hb dX5_read_0 rfl (lv_at hl 0 rfl) ?_
  refine lv_iload_n hx hb dX5_read_1 rfl (lv_at hl 1 rfl) ?_
  obtain ⟨z1, hc2, h⟩ := bnd_some h
  refine gx_cV (σ' := σ) (r := (some (.int z1))) (rest := []) (As := [.int x1]) hS9 (c_Sh_has_2 l g σ x1 z1 hc2) rfl (cwV 1 hts (gz_V mw_2_159 mw_2_94 mw_2_95 mw_1_2 mw_2_96) rfl rfl rfl hdV_X5_has ⟨Nat.le_of_ble_eq_true rfl, Nat.le_of_ble_eq_true rfl⟩) hK hG (ga_2 g _) rfl rfl rfl hl.1 rfl (Nat.le_of_ble_eq_true rfl) dX5_read_2 (fun H locs hG => ?_)
  refine W.eq (g2 := F0 m 5 ls [.int z1]) rfl ?_
  refine lv_if_eq (tgt := 17) hx hb dX5_read_5 (by decide) (fun c3 => ?_) (fun c3 => ?_)
  · have h := ite_t c3 h
    refine lv_iconst (v := (-1 : Int32)) hx hb dX5_read_17 (by decide) ?_
    exact n18 (-1 : Int32) _ _ _ (lv_sub hl [] rfl) hG h
  · have h := ite_f c3 h
    refine lv_aload_n hx hb dX5_read_8 rfl (lv_at hl 0 rfl) ?_
    refine gx_get (v := .ref (g.2.1 3)) (C := RX5) (T := TX5) (N := 4) hx hb hts mc_X5 hown hK hG (ga_2 g _) rfl 0 (by decide) hw0 rfl rfl dX5_read_9 ?_
    refine lv_iload_n hx hb dX5_read_12 rfl (lv_at hl 1 rfl) ?_
    obtain ⟨hg4, h⟩ := gd_some h
    refine gx_iald (f := (σ.2.2.1 3)) hx hb hK hG (ga_3 g _) hg4 dX5_read_13 ?_
    refine lv_goto (tgt := 18) hx hb dX5_read_14 (by decide) ?_
    exact n18 ((σ.2.2.1 3) (x1.toNatClampNeg)) _ _ _ (lv_sub hl [] rfl) hG h

set_option maxHeartbeats 4000000 in
set_option maxRecDepth 100000 in
theorem c_Net_mayJoin_10 (l : Launch) (g : GC) (σ : St) (x1 : Int32) (x2 : Int32) (r : Int32) (h : Net_mayJoin x1 x2 (σ.1 641) = some r) : Cn l g yX2_mayJoin (Cond.code yX2_mayJoin cX2_mayJoin 3 (some .boolean) :: wG) 1 21 [.ref (g.2.1 10), .int x1, .int x2] σ (some (.int r)) σ := by
  unfold Cn
  refine Met.ofW (cc := cX2_mayJoin) (maxL := 3) (ret := (some .boolean)) (by decide) rfl ?_
  intro p e s m args below meth c s₁ B hml hv
  obtain ⟨hargs, hP0, hK⟩ := hv
  have hx := B.exec
  have hb := B.bytes
  have hr := B.returns
  have hts : ∀ w ∈ wG, w.before args s = true := fun w h => atoms_spec (ws := (Cond.code yX2_mayJoin cX2_mayJoin 3 (some .boolean) :: wG)) B.pre w (List.mem_cons_of_mem _ h)
  have hown : s.vm.findClass RX2 = some m.cls := findClass_of_methodNamed B.named
  have hlocks := B.notSynchronized
  have hS9 : CallFix p m c cX2_mayJoin 3 s args wG RX2 := ⟨hx, hb, hml, hown, hts⟩
  have hf9 : entryFrame m args 3 = _ := (congrArg (fun a => entryFrame m a 3) hargs).trans (lg_entry_eq m [.ref (g.2.1 10), .int x1, .int x2] 3)
  show Wg p l e 1 21 s m args below meth c g (some (.int r)) σ s.heap [] (entryFrame m args 3)
  rw [hf9]
  have hl := lv_entry ([.ref (g.2.1 10), .int x1, .int x2]) (n := 3) (Nat.le_of_ble_eq_true rfl)
  generalize (lg_sl ([.ref (g.2.1 10), .int x1, .int x2]) ++ List.replicate (3 - (lg_sl ([.ref (g.2.1 10), .int x1, .int x2])).length) Slot.unset).toArray = ls at hl ⊢
  have hl : lv_has ls 3 [(0, .ref (g.2.1 10)), (1, .int x1), (2, .int x2)] := hl
  have hG : GW g s σ s.heap [] := ⟨hP0, va_S.rf⟩
  unfold Net_mayJoin at h
  have n26 : ∀ (t0 : Int32) (H : Heap) (locs : List Loc) (ls : Array Slot), lv_has ls 3 [] → GW g s σ H locs → Net_mayJoin_n26 t0 = some r → Wg p l e 1 21 s m args below meth c g (some (.int r)) σ H locs (F0 m 26 ls [.int t0]) := by
    intro t0 H locs ls hl hG h
    unfold Net_mayJoin_n26 at h
    obtain ⟨hg1, h⟩ := gd_some h
    cases h
    exact gx_zret hx hb hr hlocks hg1 hG dX2_mayJoin_26
  have n25 : ∀  (H : Heap) (locs : List Loc) (ls : Array Slot), lv_has ls 3 [] → GW g s σ H locs → Net_mayJoin_n25 = some r → Wg p l e 1 21 s m args below meth c g (some (.int r)) σ H locs (F0 m 25 ls []) := by
    intro H locs ls hl hG h
    unfold Net_mayJoin_n25 at h
    refine lv_iconst (v := (0 : Int32)) hx hb dX2_mayJoin_25 (by decide) ?_
    exact n26 (0 : Int32) _ _ _ (lv_sub hl [] rfl) hG h
  refine lv_aload_n hx hb dX2_mayJoin_0 rfl (lv_at hl 0 rfl) ?_
  refine lv_iload_n hx hb dX2_mayJoin_1 rfl (lv_at hl 1 rfl) ?_
  obtain ⟨z2, hc3, h⟩ := bnd_some h
  refine gx_cV (σ' := σ) (r := (some (.int z2))) (rest := []) (As := [.int x1]) hS9 (c_Net_has_10 l g σ x1 z2 hc3) rfl (cwV 1 hts (gz_V mw_2_126 mw_2_127 mw_2_128 mw_1_3 mw_2_129) rfl rfl rfl hdV_X2_has ⟨Nat.le_of_ble_eq_true rfl, Nat.le_of_ble_eq_true rfl⟩) hK hG (ga_10 g _) rfl rfl rfl hl.1 rfl (Nat.le_of_ble_eq_true rfl) dX2_mayJoin_2 (fun H locs hG => ?_)
  refine W.eq (g2 := F0 m 5 ls [.int z2]) rfl ?_
  refine lv_if_eq (tgt := 25) hx hb dX2_mayJoin_5 (by decide) (fun c4 => ?_) (fun c4 => ?_)
  · have h := ite_t c4 h
    exact n25 _ _ _ (lv_sub hl [] rfl) hG h
  · have h := ite_f c4 h
    refine lv_aload_n hx hb dX2_mayJoin_8 rfl (lv_at hl 0 rfl) ?_
    refine lv_iload_n hx hb dX2_mayJoin_9 rfl (lv_at hl 2 rfl) ?_
    obtain ⟨z5, hc6, h⟩ := bnd_some h
    refine gx_cV (σ' := σ) (r := (some (.int z5))) (rest := []) (As := [.int x2]) hS9 (c_Net_has_10 l g σ x2 z5 hc6) rfl (cwV 1 hts (gz_V mw_2_126 mw_2_127 mw_2_128 mw_1_3 mw_2_129) rfl rfl rfl hdV_X2_has ⟨Nat.le_of_ble_eq_true rfl, Nat.le_of_ble_eq_true rfl⟩) hK hG (ga_10 g _) rfl rfl rfl hl.1 rfl (Nat.le_of_ble_eq_true rfl) dX2_mayJoin_10 (fun H locs hG => ?_)
    refine W.eq (g2 := F0 m 13 ls [.int z5]) rfl ?_
    refine lv_if_eq (tgt := 25) hx hb dX2_mayJoin_13 (by decide) (fun c7 => ?_) (fun c7 => ?_)
    · have h := ite_t c7 h
      exact n25 _ _ _ (lv_sub hl [] rfl) hG h
    · have h := ite_f c7 h
      refine lv_iload_n hx hb dX2_mayJoin_16 rfl (lv_at hl 1 rfl) ?_
      refine lv_iload_n hx hb dX2_mayJoin_17 rfl (lv_at hl 2 rfl) ?_
      refine lv_icmp_eq (tgt := 25) hx hb dX2_mayJoin_18 (by decide) (fun c8 => ?_) (fun c8 => ?_)
      · have h := ite_t c8 h
        exact n25 _ _ _ (lv_sub hl [] rfl) hG h
      · have h := ite_f c8 h
        refine lv_iconst (v := (1 : Int32)) hx hb dX2_mayJoin_21 (by decide) ?_
        refine lv_goto (tgt := 26) hx hb dX2_mayJoin_22 (by decide) ?_
        exact n26 (1 : Int32) _ _ _ (lv_sub hl [] rfl) hG h

set_option maxHeartbeats 4000000 in
set_option maxRecDepth 100000 in
theorem c_LN_mayLoad_0_2 (l : Launch) (g : GC) (σ : St) (x2 : Int32) (x3 : Int32) (r : Int32) (h : LN_mayLoad x2 x3 (σ.1 641) (σ.1 131) (σ.2.2.1 3) = some r) : Cn l g yX8_mayLoad (Cond.code yX8_mayLoad cX8_mayLoad 6 (some .boolean) :: wG) 2 43 [.ref (g.2.1 0), .ref (g.2.1 2), .int x2, .int x3] σ (some (.int r)) σ := by
  unfold Cn
  refine Met.ofW (cc := cX8_mayLoad) (maxL := 6) (ret := (some .boolean)) (by decide) rfl ?_
  intro p e s m args below meth c s₁ B hml hv
  obtain ⟨hargs, hP0, hK⟩ := hv
  have hx := B.exec
  have hb := B.bytes
  have hr := B.returns
  have hts : ∀ w ∈ wG, w.before args s = true := fun w h => atoms_spec (ws := (Cond.code yX8_mayLoad cX8_mayLoad 6 (some .boolean) :: wG)) B.pre w (List.mem_cons_of_mem _ h)
  have hown : s.vm.findClass RX8 = some m.cls := findClass_of_methodNamed B.named
  have hlocks := B.notSynchronized
  have hS9 : CallFix p m c cX8_mayLoad 6 s args wG RX8 := ⟨hx, hb, hml, hown, hts⟩
  have hw0 := hts _ mw_2_38
  have hw1 := hts _ mw_2_154
  have hw2 := hts _ mw_1_36
  have hf9 : entryFrame m args 6 = _ := (congrArg (fun a => entryFrame m a 6) hargs).trans (lg_entry_eq m [.ref (g.2.1 0), .ref (g.2.1 2), .int x2, .int x3] 6)
  show Wg p l e 2 43 s m args below meth c g (some (.int r)) σ s.heap [] (entryFrame m args 6)
  rw [hf9]
  have hl := lv_entry ([.ref (g.2.1 0), .ref (g.2.1 2), .int x2, .int x3]) (n := 6) (Nat.le_of_ble_eq_true rfl)
  generalize (lg_sl ([.ref (g.2.1 0), .ref (g.2.1 2), .int x2, .int x3]) ++ List.replicate (6 - (lg_sl ([.ref (g.2.1 0), .ref (g.2.1 2), .int x2, .int x3])).length) Slot.unset).toArray = ls at hl ⊢
  have hl : lv_has ls 6 [(0, .ref (g.2.1 0)), (1, .ref (g.2.1 2)), (2, .int x2), (3, .int x3)] := hl
  have hG : GW g s σ s.heap [] := ⟨hP0, va_S.rf⟩
  unfold LN_mayLoad at h
  have n26 : ∀  (H : Heap) (locs : List Loc) (ls : Array Slot), lv_has ls 6 [] → GW g s σ H locs → LN_mayLoad_n26 = some r → Wg p l e 2 43 s m args below meth c g (some (.int r)) σ H locs (F0 m 26 ls []) := by
    intro H locs ls hl hG h
    unfold LN_mayLoad_n26 at h
    refine lv_iconst (v := (0 : Int32)) hx hb dX8_mayLoad_26 (by decide) ?_
    cases h
    exact gx_zret hx hb hr hlocks (by decide) hG dX8_mayLoad_27
  have n69 : ∀  (H : Heap) (locs : List Loc) (ls : Array Slot), lv_has ls 6 [] → GW g s σ H locs → LN_mayLoad_n69 = some r → Wg p l e 2 43 s m args below meth c g (some (.int r)) σ H locs (F0 m 69 ls []) := by
    intro H locs ls hl hG h
    unfold LN_mayLoad_n69 at h
    refine lv_iconst (v := (0 : Int32)) hx hb dX8_mayLoad_69 (by decide) ?_
    cases h
    exact gx_zret hx hb hr hlocks (by decide) hG dX8_mayLoad_70
  have n77 : ∀  (H : Heap) (locs : List Loc) (ls : Array Slot), lv_has ls 6 [] → GW g s σ H locs → LN_mayLoad_n77 = some r → Wg p l e 2 43 s m args below meth c g (some (.int r)) σ H locs (F0 m 77 ls []) := by
    intro H locs ls hl hG h
    unfold LN_mayLoad_n77 at h
    refine lv_iconst (v := (1 : Int32)) hx hb dX8_mayLoad_77 (by decide) ?_
    cases h
    exact gx_zret hx hb hr hlocks (by decide) hG dX8_mayLoad_78
  have n31 : ∀ (k31 : Int32 → Int32 → Int32 → Option (Int32)) (hk31 : ∀ (x2 : Int32) (x3 : Int32) (x4 : Int32) (H : Heap) (locs : List Loc) (ls : Array Slot), lv_has ls 6 [(0, .ref (g.2.1 0)), (1, .ref (g.2.1 2)), (2, .int x2), (3, .int x3), (4, .int x4)] → GW g s σ H locs → k31 x2 x3 x4 = some r → Wg p l e 2 43 s m args below meth c g (some (.int r)) σ H locs (F0 m 31 ls [])) (x2 : Int32) (x3 : Int32) (x4 : Int32) (H : Heap) (locs : List Loc) (ls : Array Slot), lv_has ls 6 [(0, .ref (g.2.1 0)), (1, .ref (g.2.1 2)), (2, .int x2), (3, .int x3), (4, .int x4)] → GW g s σ H locs → LN_mayLoad_n31 k31 (σ.1 641) (σ.1 131) (σ.2.2.1 3) x2 x3 x4 = some r → Wg p l e 2 43 s m args below meth c g (some (.int r)) σ H locs (F0 m 31 ls []) := by
    intro k31 hk31 x2 x3 x4 H locs ls hl hG h
    unfold LN_mayLoad_n31 at h
    refine lv_iload hx hb dX8_mayLoad_31 (lv_at hl 4 rfl) ?_
    refine lv_iload_n hx hb dX8_mayLoad_33 rfl (lv_at hl 3 rfl) ?_
    refine lv_icmp_ge (tgt := 77) hx hb dX8_mayLoad_34 (by decide) (fun c1 => ?_) (fun c1 => ?_)
    · have h := ite_t c1 h
      exact n77 _ _ _ (lv_sub hl [] rfl) hG h
    · have h := ite_f c1 h
      refine lv_iload_n hx hb dX8_mayLoad_37 rfl (lv_at hl 2 rfl) ?_
      refine lv_iconst (v := (2 : Int32)) hx hb dX8_mayLoad_38 (by decide) ?_
      refine lv_iload hx hb dX8_mayLoad_39 (lv_at hl 4 rfl) ?_
      refine lv_imul hx hb dX8_mayLoad_41 ?_
      refine lv_iadd hx hb dX8_mayLoad_42 ?_
      refine lv_istore (lv' := [(5, .int (x2 + ((2 : Int32) * x4))), (0, .ref (g.2.1 0)), (1, .ref (g.2.1 2)), (2, .int x2), (3, .int x3), (4, .int x4)]) hx hb dX8_mayLoad_43 hl (Nat.le_of_ble_eq_true rfl) rfl (fun ls hl => ?_)
      refine lv_aload_n hx hb dX8_mayLoad_45 rfl (lv_at hl 1 rfl) ?_
      refine gx_get (v := .ref (g.2.1 10)) (C := RX8) (T := TX8) (N := 13) hx hb hts mc_X8 hown hK hG (ga_0 g _) rfl 1 (by decide) hw0 rfl rfl dX8_mayLoad_46 ?_
      refine lv_aload_n hx hb dX8_mayLoad_49 rfl (lv_at hl 2 rfl) ?_
      refine lv_iload hx hb dX8_mayLoad_50 (lv_at hl 0 rfl) ?_
      obtain ⟨z2, hc3, h⟩ := bnd_some h
      refine gx_cV (σ' := σ) (r := (some (.int z2))) (rest := [.ref (g.2.1 10)]) (As := [.int (x2 + ((2 : Int32) * x4))]) hS9 (c_Sh_read_2 l g σ (x2 + ((2 : Int32) * x4)) z2 hc3) rfl (cwV 1 hts (gz_V mw_2_155 mw_2_156 mw_2_157 mw_1_2 mw_2_158) rfl rfl rfl hdV_X5_read ⟨Nat.le_of_ble_eq_true rfl, Nat.le_of_ble_eq_true rfl⟩) hK hG (ga_2 g _) rfl rfl rfl hl.1 rfl (Nat.le_of_ble_eq_true rfl) dX8_mayLoad_52 (fun H locs hG => ?_)
      refine W.eq (g2 := F0 m 55 ls [.int z2, .ref (g.2.1 10)]) rfl ?_
      refine lv_aload_n hx hb dX8_mayLoad_55 rfl (lv_at hl 2 rfl) ?_
      refine lv_iload hx hb dX8_mayLoad_56 (lv_at hl 0 rfl) ?_
      refine lv_iconst (v := (1 : Int32)) hx hb dX8_mayLoad_58 (by decide) ?_
      refine lv_iadd hx hb dX8_mayLoad_59 ?_
      obtain ⟨z4, hc5, h⟩ := bnd_some h
      refine gx_cV (σ' := σ) (r := (some (.int z4))) (rest := [.int z2, .ref (g.2.1 10)]) (As := [.int ((x2 + ((2 : Int32) * x4)) + (1 : Int32))]) hS9 (c_Sh_read_2 l g σ ((x2 + ((2 : Int32) * x4)) + (1 : Int32)) z4 hc5) rfl (cwV 1 hts (gz_V mw_2_155 mw_2_156 mw_2_157 mw_1_2 mw_2_158) rfl rfl rfl hdV_X5_read ⟨Nat.le_of_ble_eq_true rfl, Nat.le_of_ble_eq_true rfl⟩) hK hG (ga_2 g _) rfl rfl rfl hl.1 rfl (Nat.le_of_ble_eq_true rfl) dX8_mayLoad_60 (fun H locs hG => ?_)
      refine W.eq (g2 := F0 m 63 ls [.int z4, .int z2, .ref (g.2.1 10)]) rfl ?_
      obtain ⟨z6, hc7, h⟩ := bnd_some h
      refine gx_cV (σ' := σ) (r := (some (.int z6))) (rest := []) (As := [.int z2, .int z4]) hS9 (c_Net_mayJoin_10 l g σ z2 z4 z6 hc7) rfl (cwV 2 hts (gz_V mw_2_122 mw_2_123 mw_2_124 mw_1_3 mw_2_125) rfl rfl rfl hdV_X2_mayJoin ⟨Nat.le_of_ble_eq_true rfl, Nat.le_of_ble_eq_true rfl⟩) hK hG (ga_10 g _) rfl rfl rfl hl.1 rfl (Nat.le_of_ble_eq_true rfl) dX8_mayLoad_63 (fun H locs hG => ?_)
      refine W.eq (g2 := F0 m 66 ls [.int z6]) rfl ?_
      refine lv_if_ne (tgt := 71) hx hb dX8_mayLoad_66 (by decide) (fun c8 => ?_) (fun c8 => ?_)
      · have h := ite_f c8 h
        refine lv_iinc (v := (x4 + (1 : Int32))) (lv' := [(4, .int (x4 + (1 : Int32))), (5, .int (x2 + ((2 : Int32) * x4))), (0, .ref (g.2.1 0)), (1, .ref (g.2.1 2)), (2, .int x2), (3, .int x3)]) hx hb dX8_mayLoad_71 hl (k := 5) rfl (congrArg (fun z => x4 + z) (by decide)) (Nat.le_of_ble_eq_true rfl) rfl (fun ls hl => ?_)
        refine lv_goto (tgt := 31) hx hb dX8_mayLoad_74 (by decide) ?_
        exact hk31 x2 x3 (x4 + (1 : Int32)) _ _ _ (lv_sub hl [2, 3, 4, 5, 0] rfl) hG h
      · have h := ite_t c8 h
        exact n69 _ _ _ (lv_sub hl [] rfl) hG h
  have l31 : ∀  (F : Nat) (x2 : Int32) (x3 : Int32) (x4 : Int32) (H : Heap) (locs : List Loc) (ls : Array Slot), lv_has ls 6 [(0, .ref (g.2.1 0)), (1, .ref (g.2.1 2)), (2, .int x2), (3, .int x3), (4, .int x4)] → GW g s σ H locs → LN_mayLoad_l31 (σ.1 641) (σ.1 131) (σ.2.2.1 3) F x2 x3 x4 = some r → Wg p l e 2 43 s m args below meth c g (some (.int r)) σ H locs (F0 m 31 ls []) := by
    intro F
    induction F with
    | zero => intro x2 x3 x4 H locs ls hl hG h; exact no_some h
    | succ F ih => intro x2 x3 x4 H locs ls hl hG h; exact n31 (fun x2 x3 x4 => LN_mayLoad_l31 (σ.1 641) (σ.1 131) (σ.2.2.1 3) F x2 x3 x4) ih x2 x3 x4 H locs ls hl hG h
  refine lv_iload_n hx hb dX8_mayLoad_0 rfl (lv_at hl 2 rfl) ?_
  refine lv_if_lt (tgt := 26) hx hb dX8_mayLoad_1 (by decide) (fun c9 => ?_) (fun c9 => ?_)
  · have h := ite_t c9 h
    exact n26 _ _ _ (lv_sub hl [] rfl) hG h
  · have h := ite_f c9 h
    refine lv_iload_n hx hb dX8_mayLoad_4 rfl (lv_at hl 3 rfl) ?_
    refine lv_if_lt (tgt := 26) hx hb dX8_mayLoad_5 (by decide) (fun c10 => ?_) (fun c10 => ?_)
    · have h := ite_t c10 h
      exact n26 _ _ _ (lv_sub hl [] rfl) hG h
    · have h := ite_f c10 h
      refine lv_iload_n hx hb dX8_mayLoad_8 rfl (lv_at hl 2 rfl) ?_
      refine lv_i2l hx hb dX8_mayLoad_9 rfl ?_
      refine lv_ldc2 hx hb hown hw1 dX8_mayLoad_10 ?_
      refine lv_iload_n hx hb dX8_mayLoad_13 rfl (lv_at hl 3 rfl) ?_
      refine lv_i2l hx hb dX8_mayLoad_14 rfl ?_
      refine lv_lmul hx hb dX8_mayLoad_15 ?_
      refine lv_ladd hx hb dX8_mayLoad_16 ?_
      refine lv_aload_n hx hb dX8_mayLoad_17 rfl (lv_at hl 1 rfl) ?_
      refine gx_get (v := .int (σ.1 131)) (C := RX5) (T := TX5) (N := 4) hx hb hts mc_X5 hown hK hG (ga_2 g _) rfl 3 (by decide) hw2 rfl rfl dX8_mayLoad_18 ?_
      refine lv_i2l hx hb dX8_mayLoad_21 rfl ?_
      refine W.lcmp hx hb dX8_mayLoad_22 ?_
      refine lv_if_le (tgt := 28) hx hb dX8_mayLoad_23 (by decide) (fun c11 => ?_) (fun c11 => ?_)
      · have h := ite_t c11 h
        refine lv_iconst (v := (0 : Int32)) hx hb dX8_mayLoad_28 (by decide) ?_
        refine lv_istore (lv' := [(4, .int (0 : Int32)), (0, .ref (g.2.1 0)), (1, .ref (g.2.1 2)), (2, .int x2), (3, .int x3)]) hx hb dX8_mayLoad_29 hl (Nat.le_of_ble_eq_true rfl) rfl (fun ls hl => ?_)
        exact l31 FUEL x2 x3 (0 : Int32) _ _ _ (lv_sub hl [1, 2, 3, 4, 0] rfl) hG h
      · have h := ite_f c11 h
        exact n26 _ _ _ (lv_sub hl [] rfl) hG h

set_option maxHeartbeats 4000000 in
set_option maxRecDepth 100000 in
theorem c_Net_join_10 (l : Launch) (g : GC) (σ : St) (x1 : Int32) (x2 : Int32) (w_near : Nat → Int32) (h : Net_join x1 x2 (σ.1 641) (σ.2.2.1 11) = some w_near) : Cn l g yX2_join (Cond.code yX2_join cX2_join 3 none :: wG) 2 43 [.ref (g.2.1 10), .int x1, .int x2] σ none (mkS σ [] [] [(11, w_near)] []) := by
  unfold Cn
  refine Met.ofW (cc := cX2_join) (maxL := 3) (ret := none) (by decide) rfl ?_
  intro p e s m args below meth c s₁ B hml hv
  obtain ⟨hargs, hP0, hK⟩ := hv
  have hx := B.exec
  have hb := B.bytes
  have hr := B.returns
  have hts : ∀ w ∈ wG, w.before args s = true := fun w h => atoms_spec (ws := (Cond.code yX2_join cX2_join 3 none :: wG)) B.pre w (List.mem_cons_of_mem _ h)
  have hown : s.vm.findClass RX2 = some m.cls := findClass_of_methodNamed B.named
  have hlocks := B.notSynchronized
  have hS9 : CallFix p m c cX2_join 3 s args wG RX2 := ⟨hx, hb, hml, hown, hts⟩
  have hw0 := hts _ mw_1_53
  have hf9 : entryFrame m args 3 = _ := (congrArg (fun a => entryFrame m a 3) hargs).trans (lg_entry_eq m [.ref (g.2.1 10), .int x1, .int x2] 3)
  show Wg p l e 2 43 s m args below meth c g none (mkS σ [] [] [(11, w_near)] []) s.heap [] (entryFrame m args 3)
  rw [hf9]
  have hl := lv_entry ([.ref (g.2.1 10), .int x1, .int x2]) (n := 3) (Nat.le_of_ble_eq_true rfl)
  generalize (lg_sl ([.ref (g.2.1 10), .int x1, .int x2]) ++ List.replicate (3 - (lg_sl ([.ref (g.2.1 10), .int x1, .int x2])).length) Slot.unset).toArray = ls at hl ⊢
  have hl : lv_has ls 3 [(0, .ref (g.2.1 10)), (1, .int x1), (2, .int x2)] := hl
  have hG : GW g s σ s.heap [] := ⟨hP0, va_S.rf⟩
  have hG : GW g s (mkS σ [] [] [(11, (σ.2.2.1 11))] []) s.heap [] := GW_self [] [] [11] [] hG
  unfold Net_join at h
  have n33 : ∀ (v_near : Nat → Int32) (H : Heap) (locs : List Loc) (ls : Array Slot), lv_has ls 3 [] → GW g s (mkS σ [] [] [(11, v_near)] []) H locs → Net_join_n33 v_near = some w_near → Wg p l e 2 43 s m args below meth c g none (mkS σ [] [] [(11, w_near)] []) H locs (F0 m 33 ls []) := by
    intro v_near H locs ls hl hG h
    unfold Net_join_n33 at h
    cases h
    exact gx_vret hx hb hr hlocks hG dX2_join_33
  refine lv_aload_n hx hb dX2_join_0 rfl (lv_at hl 0 rfl) ?_
  refine lv_iload_n hx hb dX2_join_1 rfl (lv_at hl 1 rfl) ?_
  refine lv_iload_n hx hb dX2_join_2 rfl (lv_at hl 2 rfl) ?_
  obtain ⟨z1, hc2, h⟩ := bnd_some h
  refine gx_cV (σ' := (mkS σ [] [] [(11, (σ.2.2.1 11))] [])) (r := (some (.int z1))) (rest := []) (As := [.int x1, .int x2]) hS9 (c_Net_mayJoin_10 l g (mkS σ [] [] [(11, (σ.2.2.1 11))] []) x1 x2 z1 hc2) rfl (cwV 2 hts (gz_V mw_2_141 mw_2_123 mw_2_124 mw_1_3 mw_2_125) rfl rfl rfl hdV_X2_mayJoin ⟨Nat.le_of_ble_eq_true rfl, Nat.le_of_ble_eq_true rfl⟩) hK hG (ga_10 g _) rfl rfl rfl hl.1 rfl (Nat.le_of_ble_eq_true rfl) dX2_join_3 (fun H locs hG => ?_)
  refine W.eq (g2 := F0 m 6 ls [.int z1]) rfl ?_
  refine lv_if_eq (tgt := 33) hx hb dX2_join_6 (by decide) (fun c3 => ?_) (fun c3 => ?_)
  · have h := ite_t c3 h
    exact n33 (σ.2.2.1 11) _ _ _ (lv_sub hl [] rfl) hG h
  · have h := ite_f c3 h
    refine lv_aload_n hx hb dX2_join_9 rfl (lv_at hl 0 rfl) ?_
    refine gx_get (v := .ref (g.2.1 11)) (C := RX2) (T := TX2) (N := 2) hx hb hts mc_X2 hown hK hG (ga_10 g _) rfl 0 (by decide) hw0 rfl rfl dX2_join_10 ?_
    refine lv_iload_n hx hb dX2_join_13 rfl (lv_at hl 1 rfl) ?_
    refine lv_dup2_11 hx hb dX2_join_14 rfl rfl ?_
    obtain ⟨hg4, h⟩ := gd_some h
    refine gx_iald (f := (σ.2.2.1 11)) hx hb hK hG (ga_11 g _) hg4 dX2_join_15 ?_
    refine lv_iconst (v := (1 : Int32)) hx hb dX2_join_16 (by decide) ?_
    refine lv_iload_n hx hb dX2_join_17 rfl (lv_at hl 2 rfl) ?_
    refine lv_ishl hx hb dX2_join_18 ?_
    refine lv_ior hx hb dX2_join_19 ?_
    refine lv_topi (fun y5 ey5 => ?_)
    have h := lt_at h ey5
    refine gx_iast (σ' := (mkS σ [] [] [(11, (upd (σ.2.2.1 11) (x1.toNatClampNeg) y5))] [])) (f := (σ.2.2.1 11)) hx hb hK hG (ga_11 g _) hg4 ((gs_11 g _ _).trans (congrArg (g_cells g) (mk_c 0 rfl rfl))) dX2_join_20 (fun H locs hG => ?_)
    refine lv_aload_n hx hb dX2_join_21 rfl (lv_at hl 0 rfl) ?_
    refine gx_get (v := .ref (g.2.1 11)) (C := RX2) (T := TX2) (N := 2) hx hb hts mc_X2 hown hK hG (ga_10 g _) rfl 0 (by decide) hw0 rfl rfl dX2_join_22 ?_
    refine lv_iload_n hx hb dX2_join_25 rfl (lv_at hl 2 rfl) ?_
    refine lv_dup2_11 hx hb dX2_join_26 rfl rfl ?_
    obtain ⟨hg6, h⟩ := gd_some h
    refine gx_iald (f := (upd (σ.2.2.1 11) (x1.toNatClampNeg) y5)) hx hb hK hG (ga_11 g _) hg6 dX2_join_27 ?_
    refine lv_iconst (v := (1 : Int32)) hx hb dX2_join_28 (by decide) ?_
    refine lv_iload_n hx hb dX2_join_29 rfl (lv_at hl 1 rfl) ?_
    refine lv_ishl hx hb dX2_join_30 ?_
    refine lv_ior hx hb dX2_join_31 ?_
    refine lv_topi (fun y7 ey7 => ?_)
    have h := lt_at h ey7
    refine gx_iast (σ' := (mkS σ [] [] [(11, (upd (upd (σ.2.2.1 11) (x1.toNatClampNeg) y5) (x2.toNatClampNeg) y7))] [])) (f := (upd (σ.2.2.1 11) (x1.toNatClampNeg) y5)) hx hb hK hG (ga_11 g _) hg6 ((gs_11 g _ _).trans (congrArg (g_cells g) (mk_c 0 rfl rfl))) dX2_join_32 (fun H locs hG => ?_)
    exact n33 (upd (upd (σ.2.2.1 11) (x1.toNatClampNeg) y5) (x2.toNatClampNeg) y7) _ _ _ (lv_sub hl [] rfl) hG h

set_option maxHeartbeats 4000000 in
set_option maxRecDepth 100000 in
theorem c_LN_load_s0 (l : Launch) (g : GC) (σ : St) (x2 : Int32) (x3 : Int32) (r : Int32) (w_likeness_ready : Int32) (w_pairs_ready : Int32) (w_search_reach : Int32) (w_ways_ready : Int32) (w_now_near : Nat → Int32) (h : LN_load_s0 x2 x3 (σ.1 1539) (σ.1 641) (σ.1 2632) (σ.1 2372) (σ.1 131) (σ.1 129) (σ.1 1283) (σ.2.2.1 11) (σ.2.2.1 3) = some (r, w_likeness_ready, w_pairs_ready, w_search_reach, w_ways_ready, w_now_near)) : Cn l g yX8_load (Cond.code yX8_load cX8_load 7 (some .int) :: wG) 3 68 [.ref (g.2.1 0), .int (0 : Int32), .int x2, .int x3] σ (some (.int r)) (mkS σ [(1539, w_likeness_ready), (2632, w_pairs_ready), (2372, w_search_reach), (1283, w_ways_ready)] [] [(11, w_now_near)] []) := by
  unfold Cn
  refine Met.ofW (cc := cX8_load) (maxL := 7) (ret := (some .int)) (by decide) rfl ?_
  intro p e s m args below meth c s₁ B hml hv
  obtain ⟨hargs, hP0, hK⟩ := hv
  have hx := B.exec
  have hb := B.bytes
  have hr := B.returns
  have hts : ∀ w ∈ wG, w.before args s = true := fun w h => atoms_spec (ws := (Cond.code yX8_load cX8_load 7 (some .int) :: wG)) B.pre w (List.mem_cons_of_mem _ h)
  have hown : s.vm.findClass RX8 = some m.cls := findClass_of_methodNamed B.named
  have hlocks := B.notSynchronized
  have hS9 : CallFix p m c cX8_load 7 s args wG RX8 := ⟨hx, hb, hml, hown, hts⟩
  have hw0 := hts _ mw_2_38
  have hw1 := hts _ mw_2_37
  have hw2 := hts _ mw_1_33
  have hf9 : entryFrame m args 7 = _ := (congrArg (fun a => entryFrame m a 7) hargs).trans (lg_entry_eq m [.ref (g.2.1 0), .int (0 : Int32), .int x2, .int x3] 7)
  show Wg p l e 3 68 s m args below meth c g (some (.int r)) (mkS σ [(1539, w_likeness_ready), (2632, w_pairs_ready), (2372, w_search_reach), (1283, w_ways_ready)] [] [(11, w_now_near)] []) s.heap [] (entryFrame m args 7)
  rw [hf9]
  have hl := lv_entry ([.ref (g.2.1 0), .int (0 : Int32), .int x2, .int x3]) (n := 7) (Nat.le_of_ble_eq_true rfl)
  generalize (lg_sl ([.ref (g.2.1 0), .int (0 : Int32), .int x2, .int x3]) ++ List.replicate (7 - (lg_sl ([.ref (g.2.1 0), .int (0 : Int32), .int x2, .int x3])).length) Slot.unset).toArray = ls at hl ⊢
  have hl : lv_has ls 7 [(0, .ref (g.2.1 0)), (1, .int (0 : Int32)), (2, .int x2), (3, .int x3)] := hl
  have hG : GW g s σ s.heap [] := ⟨hP0, va_S.rf⟩
  have hG : GW g s (mkS σ [(1539, (σ.1 1539)), (2632, (σ.1 2632)), (2372, (σ.1 2372)), (1283, (σ.1 1283))] [] [(11, (σ.2.2.1 11))] []) s.heap [] := GW_self [1539, 2632, 2372, 1283] [] [11] [] hG
  unfold LN_load_s0 at h
  have n104 : ∀ (x4 : Int32) (v_likeness_ready : Int32) (v_pairs_ready : Int32) (v_search_reach : Int32) (v_ways_ready : Int32) (v_now_near : Nat → Int32) (H : Heap) (locs : List Loc) (ls : Array Slot), lv_has ls 7 [(0, .ref (g.2.1 0)), (4, .int x4)] → GW g s (mkS σ [(1539, v_likeness_ready), (2632, v_pairs_ready), (2372, v_search_reach), (1283, v_ways_ready)] [] [(11, v_now_near)] []) H locs → LN_load_s0_n104 (σ.1 641) x4 v_likeness_ready v_pairs_ready v_search_reach v_ways_ready v_now_near = some (r, w_likeness_ready, w_pairs_ready, w_search_reach, w_ways_ready, w_now_near) → Wg p l e 3 68 s m args below meth c g (some (.int r)) (mkS σ [(1539, w_likeness_ready), (2632, w_pairs_ready), (2372, w_search_reach), (1283, w_ways_ready)] [] [(11, w_now_near)] []) H locs (F0 m 104 ls []) := by
    intro x4 v_likeness_ready v_pairs_ready v_search_reach v_ways_ready v_now_near H locs ls hl hG h
    unfold LN_load_s0_n104 at h
    refine lv_aload_n hx hb dX8_load_104 rfl (lv_at hl 0 rfl) ?_
    obtain ⟨z1, hc2, h⟩ := bnd_some h
    refine gx_cV (σ' := (mkS σ [(1539, z1.1), (2632, z1.2.1), (2372, z1.2.2.1), (1283, z1.2.2.2)] [] [(11, v_now_near)] [])) (r := none) (rest := []) (As := []) hS9 (c_LN_forget l g (mkS σ [(1539, v_likeness_ready), (2632, v_pairs_ready), (2372, v_search_reach), (1283, v_ways_ready)] [] [(11, v_now_near)] []) z1.1 z1.2.1 z1.2.2.1 z1.2.2.2 hc2) (mk_mk rfl rfl rfl rfl) (cwV 0 hts (gz_V mw_2_114 mw_2_116 ms_1_0 mw_1_1 mw_2_117) rfl rfl rfl hdV_X8_forget ⟨Nat.le_of_ble_eq_true rfl, Nat.le_of_ble_eq_true rfl⟩) hK hG (ga_0 g _) rfl rfl rfl hl.1 rfl (Nat.le_of_ble_eq_true rfl) dX8_load_105 (fun H locs hG => ?_)
    refine W.eq (g2 := F0 m 108 ls []) rfl ?_
    refine lv_aload_n hx hb dX8_load_108 rfl (lv_at hl 0 rfl) ?_
    refine gx_get (v := .ref (g.2.1 10)) (C := RX8) (T := TX8) (N := 13) hx hb hts mc_X8 hown hK hG (ga_0 g _) rfl 1 (by decide) hw0 rfl rfl dX8_load_109 ?_
    obtain ⟨z3, hc4, h⟩ := bnd_some h
    refine gx_cV (σ' := (mkS σ [(1539, z1.1), (2632, z1.2.1), (2372, z1.2.2.1), (1283, z1.2.2.2)] [] [(11, v_now_near)] [])) (r := (some (.int z3))) (rest := []) (As := []) hS9 (c_Net_roads_10 l g (mkS σ [(1539, z1.1), (2632, z1.2.1), (2372, z1.2.2.1), (1283, z1.2.2.2)] [] [(11, v_now_near)] []) z3 hc4) rfl (cwV 0 hts (gz_V mw_2_160 mw_2_161 mw_2_162 mw_1_3 mw_2_163) rfl rfl rfl hdV_X2_roads ⟨Nat.le_of_ble_eq_true rfl, Nat.le_of_ble_eq_true rfl⟩) hK hG (ga_10 g _) rfl rfl rfl hl.1 rfl (Nat.le_of_ble_eq_true rfl) dX8_load_112 (fun H locs hG => ?_)
    refine W.eq (g2 := F0 m 115 ls [.int z3]) rfl ?_
    refine lv_iload hx hb dX8_load_115 (lv_at hl 1 rfl) ?_
    refine lv_isub hx hb dX8_load_117 ?_
    cases h
    exact gx_iret hx hb hr hlocks hG dX8_load_118
  have n53 : ∀ (k53 : Int32 → Int32 → Int32 → Int32 → Int32 → Int32 → Int32 → Int32 → (Nat → Int32) → Option (Int32 × Int32 × Int32 × Int32 × Int32 × (Nat → Int32))) (hk53 : ∀ (x2 : Int32) (x3 : Int32) (x4 : Int32) (x5 : Int32) (v_likeness_ready : Int32) (v_pairs_ready : Int32) (v_search_reach : Int32) (v_ways_ready : Int32) (v_now_near : Nat → Int32) (H : Heap) (locs : List Loc) (ls : Array Slot), lv_has ls 7 [(0, .ref (g.2.1 0)), (1, .int (0 : Int32)), (2, .int x2), (3, .int x3), (4, .int x4), (5, .int x5)] → GW g s (mkS σ [(1539, v_likeness_ready), (2632, v_pairs_ready), (2372, v_search_reach), (1283, v_ways_ready)] [] [(11, v_now_near)] []) H locs → k53 x2 x3 x4 x5 v_likeness_ready v_pairs_ready v_search_reach v_ways_ready v_now_near = some (r, w_likeness_ready, w_pairs_ready, w_search_reach, w_ways_ready, w_now_near) → Wg p l e 3 68 s m args below meth c g (some (.int r)) (mkS σ [(1539, w_likeness_ready), (2632, w_pairs_ready), (2372, w_search_reach), (1283, w_ways_ready)] [] [(11, w_now_near)] []) H locs (F0 m 53 ls [])) (x2 : Int32) (x3 : Int32) (x4 : Int32) (x5 : Int32) (v_likeness_ready : Int32) (v_pairs_ready : Int32) (v_search_reach : Int32) (v_ways_ready : Int32) (v_now_near : Nat → Int32) (H : Heap) (locs : List Loc) (ls : Array Slot), lv_has ls 7 [(0, .ref (g.2.1 0)), (1, .int (0 : Int32)), (2, .int x2), (3, .int x3), (4, .int x4), (5, .int x5)] → GW g s (mkS σ [(1539, v_likeness_ready), (2632, v_pairs_ready), (2372, v_search_reach), (1283, v_ways_ready)] [] [(11, v_now_near)] []) H locs → LN_load_s0_n53 k53 (σ.1 641) (σ.1 131) (σ.2.2.1 3) x2 x3 x4 x5 v_likeness_ready v_pairs_ready v_search_reach v_ways_ready v_now_near = some (r, w_likeness_ready, w_pairs_ready, w_search_reach, w_ways_ready, w_now_near) → Wg p l e 3 68 s m args below meth c g (some (.int r)) (mkS σ [(1539, w_likeness_ready), (2632, w_pairs_ready), (2372, w_search_reach), (1283, w_ways_ready)] [] [(11, w_now_near)] []) H locs (F0 m 53 ls []) := by
    intro k53 hk53 x2 x3 x4 x5 v_likeness_ready v_pairs_ready v_search_reach v_ways_ready v_now_near H locs ls hl hG h
    unfold LN_load_s0_n53 at h
    refine lv_iload hx hb dX8_load_53 (lv_at hl 5 rfl) ?_
    refine lv_iload_n hx hb dX8_load_55 rfl (lv_at hl 3 rfl) ?_
    refine lv_icmp_ge (tgt := 104) hx hb dX8_load_56 (by decide) (fun c5 => ?_) (fun c5 => ?_)
    · have h := ite_t c5 h
      exact n104 x4 v_likeness_ready v_pairs_ready v_search_reach v_ways_ready v_now_near _ _ _ (lv_sub hl [0, 4] rfl) hG h
    · have h := ite_f c5 h
      refine lv_iload_n hx hb dX8_load_59 rfl (lv_at hl 2 rfl) ?_
      refine lv_iconst (v := (2 : Int32)) hx hb dX8_load_60 (by decide) ?_
      refine lv_iload hx hb dX8_load_61 (lv_at hl 5 rfl) ?_
      refine lv_imul hx hb dX8_load_63 ?_
      refine lv_iadd hx hb dX8_load_64 ?_
      refine lv_istore (lv' := [(6, .int (x2 + ((2 : Int32) * x5))), (0, .ref (g.2.1 0)), (1, .int (0 : Int32)), (2, .int x2), (3, .int x3), (4, .int x4), (5, .int x5)]) hx hb dX8_load_65 hl (Nat.le_of_ble_eq_true rfl) rfl (fun ls hl => ?_)
      refine lv_aload_n hx hb dX8_load_67 rfl (lv_at hl 1 rfl) ?_
      refine gx_get (v := .ref (g.2.1 10)) (C := RX8) (T := TX8) (N := 13) hx hb hts mc_X8 hown hK hG (ga_0 g _) rfl 1 (by decide) hw0 rfl rfl dX8_load_68 ?_
      refine lv_aload_n hx hb dX8_load_71 rfl (lv_at hl 1 rfl) ?_
      refine gx_get (v := .ref (g.2.1 1)) (C := RX8) (T := TX8) (N := 13) hx hb hts mc_X8 hown hK hG (ga_0 g _) rfl 0 (by decide) hw1 rfl rfl dX8_load_72 ?_
      refine lv_iload_n hx hb dX8_load_75 rfl (lv_at hl 2 rfl) ?_
      refine gx_aald (v := .ref (g.2.1 2)) hx hb hK hG (ga_1 g _) (by decide) rfl dX8_load_76 ?_
      refine lv_iload hx hb dX8_load_77 (lv_at hl 0 rfl) ?_
      obtain ⟨z6, hc7, h⟩ := bnd_some h
      refine gx_cV (σ' := (mkS σ [(1539, v_likeness_ready), (2632, v_pairs_ready), (2372, v_search_reach), (1283, v_ways_ready)] [] [(11, v_now_near)] [])) (r := (some (.int z6))) (rest := [.ref (g.2.1 10)]) (As := [.int (x2 + ((2 : Int32) * x5))]) hS9 (c_Sh_read_2 l g (mkS σ [(1539, v_likeness_ready), (2632, v_pairs_ready), (2372, v_search_reach), (1283, v_ways_ready)] [] [(11, v_now_near)] []) (x2 + ((2 : Int32) * x5)) z6 hc7) rfl (cwV 1 hts (gz_V mw_2_155 mw_2_156 mw_2_157 mw_1_2 mw_2_158) rfl rfl rfl hdV_X5_read ⟨Nat.le_of_ble_eq_true rfl, Nat.le_of_ble_eq_true rfl⟩) hK hG (ga_2 g _) rfl rfl rfl hl.1 rfl (Nat.le_of_ble_eq_true rfl) dX8_load_79 (fun H locs hG => ?_)
      refine W.eq (g2 := F0 m 82 ls [.int z6, .ref (g.2.1 10)]) rfl ?_
      refine lv_aload_n hx hb dX8_load_82 rfl (lv_at hl 1 rfl) ?_
      refine gx_get (v := .ref (g.2.1 1)) (C := RX8) (T := TX8) (N := 13) hx hb hts mc_X8 hown hK hG (ga_0 g _) rfl 0 (by decide) hw1 rfl rfl dX8_load_83 ?_
      refine lv_iload_n hx hb dX8_load_86 rfl (lv_at hl 2 rfl) ?_
      refine gx_aald (v := .ref (g.2.1 2)) hx hb hK hG (ga_1 g _) (by decide) rfl dX8_load_87 ?_
      refine lv_iload hx hb dX8_load_88 (lv_at hl 0 rfl) ?_
      refine lv_iconst (v := (1 : Int32)) hx hb dX8_load_90 (by decide) ?_
      refine lv_iadd hx hb dX8_load_91 ?_
      obtain ⟨z8, hc9, h⟩ := bnd_some h
      refine gx_cV (σ' := (mkS σ [(1539, v_likeness_ready), (2632, v_pairs_ready), (2372, v_search_reach), (1283, v_ways_ready)] [] [(11, v_now_near)] [])) (r := (some (.int z8))) (rest := [.int z6, .ref (g.2.1 10)]) (As := [.int ((x2 + ((2 : Int32) * x5)) + (1 : Int32))]) hS9 (c_Sh_read_2 l g (mkS σ [(1539, v_likeness_ready), (2632, v_pairs_ready), (2372, v_search_reach), (1283, v_ways_ready)] [] [(11, v_now_near)] []) ((x2 + ((2 : Int32) * x5)) + (1 : Int32)) z8 hc9) rfl (cwV 1 hts (gz_V mw_2_155 mw_2_156 mw_2_157 mw_1_2 mw_2_158) rfl rfl rfl hdV_X5_read ⟨Nat.le_of_ble_eq_true rfl, Nat.le_of_ble_eq_true rfl⟩) hK hG (ga_2 g _) rfl rfl rfl hl.1 rfl (Nat.le_of_ble_eq_true rfl) dX8_load_92 (fun H locs hG => ?_)
      refine W.eq (g2 := F0 m 95 ls [.int z8, .int z6, .ref (g.2.1 10)]) rfl ?_
      obtain ⟨z10, hc11, h⟩ := bnd_some h
      refine gx_cV (σ' := (mkS σ [(1539, v_likeness_ready), (2632, v_pairs_ready), (2372, v_search_reach), (1283, v_ways_ready)] [] [(11, z10)] [])) (r := none) (rest := []) (As := [.int z6, .int z8]) hS9 (c_Net_join_10 l g (mkS σ [(1539, v_likeness_ready), (2632, v_pairs_ready), (2372, v_search_reach), (1283, v_ways_ready)] [] [(11, v_now_near)] []) z6 z8 z10 hc11) (mk_mk rfl rfl rfl rfl) (cwV 2 hts (gz_V mw_2_137 mw_2_138 mw_2_139 mw_1_3 mw_2_140) rfl rfl rfl hdV_X2_join ⟨Nat.le_of_ble_eq_true rfl, Nat.le_of_ble_eq_true rfl⟩) hK hG (ga_10 g _) rfl rfl rfl hl.1 rfl (Nat.le_of_ble_eq_true rfl) dX8_load_95 (fun H locs hG => ?_)
      refine W.eq (g2 := F0 m 98 ls []) rfl ?_
      refine lv_iinc (v := (x5 + (1 : Int32))) (lv' := [(5, .int (x5 + (1 : Int32))), (6, .int (x2 + ((2 : Int32) * x5))), (0, .ref (g.2.1 0)), (1, .int (0 : Int32)), (2, .int x2), (3, .int x3), (4, .int x4)]) hx hb dX8_load_98 hl (k := 6) rfl (congrArg (fun z => x5 + z) (by decide)) (Nat.le_of_ble_eq_true rfl) rfl (fun ls hl => ?_)
      refine lv_goto (tgt := 53) hx hb dX8_load_101 (by decide) ?_
      exact hk53 x2 x3 x4 (x5 + (1 : Int32)) v_likeness_ready v_pairs_ready v_search_reach v_ways_ready z10 _ _ _ (lv_sub hl [2, 3, 4, 5, 6, 0] rfl) hG h
  have l53 : ∀  (F : Nat) (x2 : Int32) (x3 : Int32) (x4 : Int32) (x5 : Int32) (v_likeness_ready : Int32) (v_pairs_ready : Int32) (v_search_reach : Int32) (v_ways_ready : Int32) (v_now_near : Nat → Int32) (H : Heap) (locs : List Loc) (ls : Array Slot), lv_has ls 7 [(0, .ref (g.2.1 0)), (1, .int (0 : Int32)), (2, .int x2), (3, .int x3), (4, .int x4), (5, .int x5)] → GW g s (mkS σ [(1539, v_likeness_ready), (2632, v_pairs_ready), (2372, v_search_reach), (1283, v_ways_ready)] [] [(11, v_now_near)] []) H locs → LN_load_s0_l53 (σ.1 641) (σ.1 131) (σ.2.2.1 3) F x2 x3 x4 x5 v_likeness_ready v_pairs_ready v_search_reach v_ways_ready v_now_near = some (r, w_likeness_ready, w_pairs_ready, w_search_reach, w_ways_ready, w_now_near) → Wg p l e 3 68 s m args below meth c g (some (.int r)) (mkS σ [(1539, w_likeness_ready), (2632, w_pairs_ready), (2372, w_search_reach), (1283, w_ways_ready)] [] [(11, w_now_near)] []) H locs (F0 m 53 ls []) := by
    intro F
    induction F with
    | zero => intro x2 x3 x4 x5 v_likeness_ready v_pairs_ready v_search_reach v_ways_ready v_now_near H locs ls hl hG h; exact no_some h
    | succ F ih => intro x2 x3 x4 x5 v_likeness_ready v_pairs_ready v_search_reach v_ways_ready v_now_near H locs ls hl hG h; exact n53 (fun x2 x3 x4 x5 v_likeness_ready v_pairs_ready v_search_reach v_ways_ready v_now_near => LN_load_s0_l53 (σ.1 641) (σ.1 131) (σ.2.2.1 3) F x2 x3 x4 x5 v_likeness_ready v_pairs_ready v_search_reach v_ways_ready v_now_near) ih x2 x3 x4 x5 v_likeness_ready v_pairs_ready v_search_reach v_ways_ready v_now_near H locs ls hl hG h
  refine lv_iload_n hx hb dX8_load_0 rfl (lv_at hl 1 rfl) ?_
  obtain ⟨z12, hc13, h⟩ := bnd_some h
  refine gx_cS (σ' := (mkS σ [(1539, (σ.1 1539)), (2632, (σ.1 2632)), (2372, (σ.1 2372)), (1283, (σ.1 1283))] [] [(11, (σ.2.2.1 11))] [])) (r := (some (.int z12))) (rest := []) (As := [.int (0 : Int32)]) hS9 (c_LN_isSheet l g (mkS σ [(1539, (σ.1 1539)), (2632, (σ.1 2632)), (2372, (σ.1 2372)), (1283, (σ.1 1283))] [] [(11, (σ.2.2.1 11))] []) (0 : Int32) z12 hc13) rfl (va_cwS 1 hts (gz_S mw_2_81 mw_2_82 mw_1_1 mw_2_83) rfl rfl rfl hdS_X8_isSheet ⟨Nat.le_of_ble_eq_true rfl, Nat.le_of_ble_eq_true rfl⟩) hK hG rfl hl.1 rfl (Nat.le_of_ble_eq_true rfl) dX8_load_1 (fun H locs hG => ?_)
  refine W.eq (g2 := F0 m 4 ls [.int z12]) rfl ?_
  refine lv_if_ne (tgt := 9) hx hb dX8_load_4 (by decide) (fun c14 => ?_) (fun c14 => ?_)
  · have h := ite_f c14 h
    refine lv_aload_n hx hb dX8_load_9 rfl (lv_at hl 0 rfl) ?_
    refine gx_get (v := .ref (g.2.1 1)) (C := RX8) (T := TX8) (N := 13) hx hb hts mc_X8 hown hK hG (ga_0 g _) rfl 0 (by decide) hw1 rfl rfl dX8_load_10 ?_
    refine lv_iload_n hx hb dX8_load_13 rfl (lv_at hl 1 rfl) ?_
    refine gx_aald (v := .ref (g.2.1 2)) hx hb hK hG (ga_1 g _) (by decide) rfl dX8_load_14 ?_
    refine gx_get (v := .int (σ.1 129)) (C := RX5) (T := TX5) (N := 4) hx hb hts mc_X5 hown hK hG (ga_2 g _) rfl 1 (by decide) hw2 rfl rfl dX8_load_15 ?_
    refine lv_if_ne (tgt := 24) hx hb dX8_load_18 (by decide) (fun c15 => ?_) (fun c15 => ?_)
    · have h := ite_f c15 h
      refine lv_aload_n hx hb dX8_load_24 rfl (lv_at hl 0 rfl) ?_
      refine lv_aload_n hx hb dX8_load_25 rfl (lv_at hl 0 rfl) ?_
      refine gx_get (v := .ref (g.2.1 1)) (C := RX8) (T := TX8) (N := 13) hx hb hts mc_X8 hown hK hG (ga_0 g _) rfl 0 (by decide) hw1 rfl rfl dX8_load_26 ?_
      refine lv_iload_n hx hb dX8_load_29 rfl (lv_at hl 1 rfl) ?_
      refine gx_aald (v := .ref (g.2.1 2)) hx hb hK hG (ga_1 g _) (by decide) rfl dX8_load_30 ?_
      refine lv_iload_n hx hb dX8_load_31 rfl (lv_at hl 2 rfl) ?_
      refine lv_iload_n hx hb dX8_load_32 rfl (lv_at hl 3 rfl) ?_
      obtain ⟨z16, hc17, h⟩ := bnd_some h
      refine gx_cV (σ' := (mkS σ [(1539, (σ.1 1539)), (2632, (σ.1 2632)), (2372, (σ.1 2372)), (1283, (σ.1 1283))] [] [(11, (σ.2.2.1 11))] [])) (r := (some (.int z16))) (rest := []) (As := [.ref (g.2.1 2), .int x2, .int x3]) hS9 (c_LN_mayLoad_0_2 l g (mkS σ [(1539, (σ.1 1539)), (2632, (σ.1 2632)), (2372, (σ.1 2372)), (1283, (σ.1 1283))] [] [(11, (σ.2.2.1 11))] []) x2 x3 z16 hc17) rfl (cwV 3 hts (gz_V mw_2_150 mw_2_152 ms_1_1 mw_1_1 mw_2_153) rfl rfl rfl hdV_X8_mayLoad ⟨Nat.le_of_ble_eq_true rfl, Nat.le_of_ble_eq_true rfl⟩) hK hG (ga_0 g _) rfl rfl rfl hl.1 rfl (Nat.le_of_ble_eq_true rfl) dX8_load_33 (fun H locs hG => ?_)
      refine W.eq (g2 := F0 m 36 ls [.int z16]) rfl ?_
      refine lv_if_ne (tgt := 41) hx hb dX8_load_36 (by decide) (fun c18 => ?_) (fun c18 => ?_)
      · have h := ite_f c18 h
        refine lv_aload_n hx hb dX8_load_41 rfl (lv_at hl 0 rfl) ?_
        refine gx_get (v := .ref (g.2.1 10)) (C := RX8) (T := TX8) (N := 13) hx hb hts mc_X8 hown hK hG (ga_0 g _) rfl 1 (by decide) hw0 rfl rfl dX8_load_42 ?_
        obtain ⟨z19, hc20, h⟩ := bnd_some h
        refine gx_cV (σ' := (mkS σ [(1539, (σ.1 1539)), (2632, (σ.1 2632)), (2372, (σ.1 2372)), (1283, (σ.1 1283))] [] [(11, (σ.2.2.1 11))] [])) (r := (some (.int z19))) (rest := []) (As := []) hS9 (c_Net_roads_10 l g (mkS σ [(1539, (σ.1 1539)), (2632, (σ.1 2632)), (2372, (σ.1 2372)), (1283, (σ.1 1283))] [] [(11, (σ.2.2.1 11))] []) z19 hc20) rfl (cwV 0 hts (gz_V mw_2_160 mw_2_161 mw_2_162 mw_1_3 mw_2_163) rfl rfl rfl hdV_X2_roads ⟨Nat.le_of_ble_eq_true rfl, Nat.le_of_ble_eq_true rfl⟩) hK hG (ga_10 g _) rfl rfl rfl hl.1 rfl (Nat.le_of_ble_eq_true rfl) dX8_load_45 (fun H locs hG => ?_)
        refine W.eq (g2 := F0 m 48 ls [.int z19]) rfl ?_
        refine lv_istore (lv' := [(4, .int z19), (0, .ref (g.2.1 0)), (1, .int (0 : Int32)), (2, .int x2), (3, .int x3)]) hx hb dX8_load_48 hl (Nat.le_of_ble_eq_true rfl) rfl (fun ls hl => ?_)
        refine lv_iconst (v := (0 : Int32)) hx hb dX8_load_50 (by decide) ?_
        refine lv_istore (lv' := [(5, .int (0 : Int32)), (4, .int z19), (0, .ref (g.2.1 0)), (1, .int (0 : Int32)), (2, .int x2), (3, .int x3)]) hx hb dX8_load_51 hl (Nat.le_of_ble_eq_true rfl) rfl (fun ls hl => ?_)
        exact l53 FUEL x2 x3 z19 (0 : Int32) (σ.1 1539) (σ.1 2632) (σ.1 2372) (σ.1 1283) (σ.2.2.1 11) _ _ _ (lv_sub hl [2, 3, 4, 5, 1, 0] rfl) hG h
      · have h := ite_t c18 h
        refine lv_iconst (v := (-1 : Int32)) hx hb dX8_load_39 (by decide) ?_
        cases h
        exact gx_iret hx hb hr hlocks hG dX8_load_40
    · have h := ite_t c15 h
      refine lv_bipush (v := (-3 : Int32)) hx hb dX8_load_21 (by decide) ?_
      cases h
      exact gx_iret hx hb hr hlocks hG dX8_load_23
  · have h := ite_t c14 h
    refine lv_iconst (v := (-1 : Int32)) hx hb dX8_load_7 (by decide) ?_
    cases h
    exact gx_iret hx hb hr hlocks hG dX8_load_8

set_option maxHeartbeats 4000000 in
set_option maxRecDepth 100000 in
theorem c_Sh_read_4 (l : Launch) (g : GC) (σ : St) (x1 : Int32) (r : Int32) (h : Sh_read x1 (σ.1 259) (σ.2.2.1 5) = some r) : Cn l g yX5_read (Cond.code yX5_read cX5_read 2 (some .int) :: wG) 1 21 [.ref (g.2.1 4), .int x1] σ (some (.int r)) σ := by
  unfold Cn
  refine Met.ofW (cc := cX5_read) (maxL := 2) (ret := (some .int)) (by decide) rfl ?_
  intro p e s m args below meth c s₁ B hml hv
  obtain ⟨hargs, hP0, hK⟩ := hv
  have hx := B.exec
  have hb := B.bytes
  have hr := B.returns
  have hts : ∀ w ∈ wG, w.before args s = true := fun w h => atoms_spec (ws := (Cond.code yX5_read cX5_read 2 (some .int) :: wG)) B.pre w (List.mem_cons_of_mem _ h)
  have hown : s.vm.findClass RX5 = some m.cls := findClass_of_methodNamed B.named
  have hlocks := B.notSynchronized
  have hS9 : CallFix p m c cX5_read 2 s args wG RX5 := ⟨hx, hb, hml, hown, hts⟩
  have hw0 := hts _ mw_1_31
  have hf9 : entryFrame m args 2 = _ := (congrArg (fun a => entryFrame m a 2) hargs).trans (lg_entry_eq m [.ref (g.2.1 4), .int x1] 2)
  show Wg p l e 1 21 s m args below meth c g (some (.int r)) σ s.heap [] (entryFrame m args 2)
  rw [hf9]
  have hl := lv_entry ([.ref (g.2.1 4), .int x1]) (n := 2) (Nat.le_of_ble_eq_true rfl)
  generalize (lg_sl ([.ref (g.2.1 4), .int x1]) ++ List.replicate (2 - (lg_sl ([.ref (g.2.1 4), .int x1])).length) Slot.unset).toArray = ls at hl ⊢
  have hl : lv_has ls 2 [(0, .ref (g.2.1 4)), (1, .int x1)] := hl
  have hG : GW g s σ s.heap [] := ⟨hP0, va_S.rf⟩
  unfold Sh_read at h
  have n18 : ∀ (t0 : Int32) (H : Heap) (locs : List Loc) (ls : Array Slot), lv_has ls 2 [] → GW g s σ H locs → Sh_read_n18 t0 = some r → Wg p l e 1 21 s m args below meth c g (some (.int r)) σ H locs (F0 m 18 ls [.int t0]) := by
    intro t0 H locs ls hl hG h
    unfold Sh_read_n18 at h
    cases h
    exact gx_iret hx hb hr hlocks hG dX5_read_18
  refine lv_aload_n hx hb dX5_read_0 rfl (lv_at hl 0 rfl) ?_
  refine lv_iload_n hx hb dX5_read_1 rfl (lv_at hl 1 rfl) ?_
  obtain ⟨z1, hc2, h⟩ := bnd_some h
  refine gx_cV (σ' := σ) (r := (some (.int z1))) (rest := []) (As := [.int x1]) hS9 (c_Sh_has_4 l g σ x1 z1 hc2) rfl (cwV 1 hts (gz_V mw_2_159 mw_2_94 mw_2_95 mw_1_2 mw_2_96) rfl rfl rfl hdV_X5_has ⟨Nat.le_of_ble_eq_true rfl, Nat.le_of_ble_eq_true rfl⟩) hK hG (ga_4 g _) rfl rfl rfl hl.1 rfl (Nat.le_of_ble_eq_true rfl) dX5_read_2 (fun H locs hG => ?_)
  refine W.eq (g2 := F0 m 5 ls [.int z1]) rfl ?_
  refine lv_if_eq (tgt := 17) hx hb dX5_read_5 (by decide) (fun c3 => ?_) (fun c3 => ?_)
  · have h := ite_t c3 h
    refine lv_iconst (v := (-1 : Int32)) hx hb dX5_read_17 (by decide) ?_
    exact n18 (-1 : Int32) _ _ _ (lv_sub hl [] rfl) hG h
  · have h := ite_f c3 h
    refine lv_aload_n hx hb dX5_read_8 rfl (lv_at hl 0 rfl) ?_
    refine gx_get (v := .ref (g.2.1 5)) (C := RX5) (T := TX5) (N := 4) hx hb hts mc_X5 hown hK hG (ga_4 g _) rfl 0 (by decide) hw0 rfl rfl dX5_read_9 ?_
    refine lv_iload_n hx hb dX5_read_12 rfl (lv_at hl 1 rfl) ?_
    obtain ⟨hg4, h⟩ := gd_some h
    refine gx_iald (f := (σ.2.2.1 5)) hx hb hK hG (ga_5 g _) hg4 dX5_read_13 ?_
    refine lv_goto (tgt := 18) hx hb dX5_read_14 (by decide) ?_
    exact n18 ((σ.2.2.1 5) (x1.toNatClampNeg)) _ _ _ (lv_sub hl [] rfl) hG h

set_option maxHeartbeats 4000000 in
set_option maxRecDepth 100000 in
theorem c_LN_mayLoad_0_4 (l : Launch) (g : GC) (σ : St) (x2 : Int32) (x3 : Int32) (r : Int32) (h : LN_mayLoad x2 x3 (σ.1 641) (σ.1 259) (σ.2.2.1 5) = some r) : Cn l g yX8_mayLoad (Cond.code yX8_mayLoad cX8_mayLoad 6 (some .boolean) :: wG) 2 43 [.ref (g.2.1 0), .ref (g.2.1 4), .int x2, .int x3] σ (some (.int r)) σ := by
  unfold Cn
  refine Met.ofW (cc := cX8_mayLoad) (maxL := 6) (ret := (some .boolean)) (by decide) rfl ?_
  intro p e s m args below meth c s₁ B hml hv
  obtain ⟨hargs, hP0, hK⟩ := hv
  have hx := B.exec
  have hb := B.bytes
  have hr := B.returns
  have hts : ∀ w ∈ wG, w.before args s = true := fun w h => atoms_spec (ws := (Cond.code yX8_mayLoad cX8_mayLoad 6 (some .boolean) :: wG)) B.pre w (List.mem_cons_of_mem _ h)
  have hown : s.vm.findClass RX8 = some m.cls := findClass_of_methodNamed B.named
  have hlocks := B.notSynchronized
  have hS9 : CallFix p m c cX8_mayLoad 6 s args wG RX8 := ⟨hx, hb, hml, hown, hts⟩
  have hw0 := hts _ mw_2_38
  have hw1 := hts _ mw_2_154
  have hw2 := hts _ mw_1_36
  have hf9 : entryFrame m args 6 = _ := (congrArg (fun a => entryFrame m a 6) hargs).trans (lg_entry_eq m [.ref (g.2.1 0), .ref (g.2.1 4), .int x2, .int x3] 6)
  show Wg p l e 2 43 s m args below meth c g (some (.int r)) σ s.heap [] (entryFrame m args 6)
  rw [hf9]
  have hl := lv_entry ([.ref (g.2.1 0), .ref (g.2.1 4), .int x2, .int x3]) (n := 6) (Nat.le_of_ble_eq_true rfl)
  generalize (lg_sl ([.ref (g.2.1 0), .ref (g.2.1 4), .int x2, .int x3]) ++ List.replicate (6 - (lg_sl ([.ref (g.2.1 0), .ref (g.2.1 4), .int x2, .int x3])).length) Slot.unset).toArray = ls at hl ⊢
  have hl : lv_has ls 6 [(0, .ref (g.2.1 0)), (1, .ref (g.2.1 4)), (2, .int x2), (3, .int x3)] := hl
  have hG : GW g s σ s.heap [] := ⟨hP0, va_S.rf⟩
  unfold LN_mayLoad at h
  have n26 : ∀  (H : Heap) (locs : List Loc) (ls : Array Slot), lv_has ls 6 [] → GW g s σ H locs → LN_mayLoad_n26 = some r → Wg p l e 2 43 s m args below meth c g (some (.int r)) σ H locs (F0 m 26 ls []) := by
    intro H locs ls hl hG h
    unfold LN_mayLoad_n26 at h
    refine lv_iconst (v := (0 : Int32)) hx hb dX8_mayLoad_26 (by decide) ?_
    cases h
    exact gx_zret hx hb hr hlocks (by decide) hG dX8_mayLoad_27
  have n69 : ∀  (H : Heap) (locs : List Loc) (ls : Array Slot), lv_has ls 6 [] → GW g s σ H locs → LN_mayLoad_n69 = some r → Wg p l e 2 43 s m args below meth c g (some (.int r)) σ H locs (F0 m 69 ls []) := by
    intro H locs ls hl hG h
    unfold LN_mayLoad_n69 at h
    refine lv_iconst (v := (0 : Int32)) hx hb dX8_mayLoad_69 (by decide) ?_
    cases h
    exact gx_zret hx hb hr hlocks (by decide) hG dX8_mayLoad_70
  have n77 : ∀  (H : Heap) (locs : List Loc) (ls : Array Slot), lv_has ls 6 [] → GW g s σ H locs → LN_mayLoad_n77 = some r → Wg p l e 2 43 s m args below meth c g (some (.int r)) σ H locs (F0 m 77 ls []) := by
    intro H locs ls hl hG h
    unfold LN_mayLoad_n77 at h
    refine lv_iconst (v := (1 : Int32)) hx hb dX8_mayLoad_77 (by decide) ?_
    cases h
    exact gx_zret hx hb hr hlocks (by decide) hG dX8_mayLoad_78
  have n31 : ∀ (k31 : Int32 → Int32 → Int32 → Option (Int32)) (hk31 : ∀ (x2 : Int32) (x3 : Int32) (x4 : Int32) (H : Heap) (locs : List Loc) (ls : Array Slot), lv_has ls 6 [(0, .ref (g.2.1 0)), (1, .ref (g.2.1 4)), (2, .int x2), (3, .int x3), (4, .int x4)] → GW g s σ H locs → k31 x2 x3 x4 = some r → Wg p l e 2 43 s m args below meth c g (some (.int r)) σ H locs (F0 m 31 ls [])) (x2 : Int32) (x3 : Int32) (x4 : Int32) (H : Heap) (locs : List Loc) (ls : Array Slot), lv_has ls 6 [(0, .ref (g.2.1 0)), (1, .ref (g.2.1 4)), (2, .int x2), (3, .int x3), (4, .int x4)] → GW g s σ H locs → LN_mayLoad_n31 k31 (σ.1 641) (σ.1 259) (σ.2.2.1 5) x2 x3 x4 = some r → Wg p l e 2 43 s m args below meth c g (some (.int r)) σ H locs (F0 m 31 ls []) := by
    intro k31 hk31 x2 x3 x4 H locs ls hl hG h
    unfold LN_mayLoad_n31 at h
    refine lv_iload hx hb dX8_mayLoad_31 (lv_at hl 4 rfl) ?_
    refine lv_iload_n hx hb dX8_mayLoad_33 rfl (lv_at hl 3 rfl) ?_
    refine lv_icmp_ge (tgt := 77) hx hb dX8_mayLoad_34 (by decide) (fun c1 => ?_) (fun c1 => ?_)
    · have h := ite_t c1 h
      exact n77 _ _ _ (lv_sub hl [] rfl) hG h
    · have h := ite_f c1 h
      refine lv_iload_n hx hb dX8_mayLoad_37 rfl (lv_at hl 2 rfl) ?_
      refine lv_iconst (v := (2 : Int32)) hx hb dX8_mayLoad_38 (by decide) ?_
      refine lv_iload hx hb dX8_mayLoad_39 (lv_at hl 4 rfl) ?_
      refine lv_imul hx hb dX8_mayLoad_41 ?_
      refine lv_iadd hx hb dX8_mayLoad_42 ?_
      refine lv_istore (lv' := [(5, .int (x2 + ((2 : Int32) * x4))), (0, .ref (g.2.1 0)), (1, .ref (g.2.1 4)), (2, .int x2), (3, .int x3), (4, .int x4)]) hx hb dX8_mayLoad_43 hl (Nat.le_of_ble_eq_true rfl) rfl (fun ls hl => ?_)
      refine lv_aload_n hx hb dX8_mayLoad_45 rfl (lv_at hl 1 rfl) ?_
      refine gx_get (v := .ref (g.2.1 10)) (C := RX8) (T := TX8) (N := 13) hx hb hts mc_X8 hown hK hG (ga_0 g _) rfl 1 (by decide) hw0 rfl rfl dX8_mayLoad_46 ?_
      refine lv_aload_n hx hb dX8_mayLoad_49 rfl (lv_at hl 2 rfl) ?_
      refine lv_iload hx hb dX8_mayLoad_50 (lv_at hl 0 rfl) ?_
      obtain ⟨z2, hc3, h⟩ := bnd_some h
      refine gx_cV (σ' := σ) (r := (some (.int z2))) (rest := [.ref (g.2.1 10)]) (As := [.int (x2 + ((2 : Int32) * x4))]) hS9 (c_Sh_read_4 l g σ (x2 + ((2 : Int32) * x4)) z2 hc3) rfl (cwV 1 hts (gz_V mw_2_155 mw_2_156 mw_2_157 mw_1_2 mw_2_158) rfl rfl rfl hdV_X5_read ⟨Nat.le_of_ble_eq_true rfl, Nat.le_of_ble_eq_true rfl⟩) hK hG (ga_4 g _) rfl rfl rfl hl.1 rfl (Nat.le_of_ble_eq_true rfl) dX8_mayLoad_52 (fun H locs hG => ?_)
      refine W.eq (g2 := F0 m 55 ls [.int z2, .ref (g.2.1 10)]) rfl ?_
      refine lv_aload_n hx hb dX8_mayLoad_55 rfl (lv_at hl 2 rfl) ?_
      refine lv_iload hx hb dX8_mayLoad_56 (lv_at hl 0 rfl) ?_
      refine lv_iconst (v := (1 : Int32)) hx hb dX8_mayLoad_58 (by decide) ?_
      refine lv_iadd hx hb dX8_mayLoad_59 ?_
      obtain ⟨z4, hc5, h⟩ := bnd_some h
      refine gx_cV (σ' := σ) (r := (some (.int z4))) (rest := [.int z2, .ref (g.2.1 10)]) (As := [.int ((x2 + ((2 : Int32) * x4)) + (1 : Int32))]) hS9 (c_Sh_read_4 l g σ ((x2 + ((2 : Int32) * x4)) + (1 : Int32)) z4 hc5) rfl (cwV 1 hts (gz_V mw_2_155 mw_2_156 mw_2_157 mw_1_2 mw_2_158) rfl rfl rfl hdV_X5_read ⟨Nat.le_of_ble_eq_true rfl, Nat.le_of_ble_eq_true rfl⟩) hK hG (ga_4 g _) rfl rfl rfl hl.1 rfl (Nat.le_of_ble_eq_true rfl) dX8_mayLoad_60 (fun H locs hG => ?_)
      refine W.eq (g2 := F0 m 63 ls [.int z4, .int z2, .ref (g.2.1 10)]) rfl ?_
      obtain ⟨z6, hc7, h⟩ := bnd_some h
      refine gx_cV (σ' := σ) (r := (some (.int z6))) (rest := []) (As := [.int z2, .int z4]) hS9 (c_Net_mayJoin_10 l g σ z2 z4 z6 hc7) rfl (cwV 2 hts (gz_V mw_2_122 mw_2_123 mw_2_124 mw_1_3 mw_2_125) rfl rfl rfl hdV_X2_mayJoin ⟨Nat.le_of_ble_eq_true rfl, Nat.le_of_ble_eq_true rfl⟩) hK hG (ga_10 g _) rfl rfl rfl hl.1 rfl (Nat.le_of_ble_eq_true rfl) dX8_mayLoad_63 (fun H locs hG => ?_)
      refine W.eq (g2 := F0 m 66 ls [.int z6]) rfl ?_
      refine lv_if_ne (tgt := 71) hx hb dX8_mayLoad_66 (by decide) (fun c8 => ?_) (fun c8 => ?_)
      · have h := ite_f c8 h
        refine lv_iinc (v := (x4 + (1 : Int32))) (lv' := [(4, .int (x4 + (1 : Int32))), (5, .int (x2 + ((2 : Int32) * x4))), (0, .ref (g.2.1 0)), (1, .ref (g.2.1 4)), (2, .int x2), (3, .int x3)]) hx hb dX8_mayLoad_71 hl (k := 5) rfl (congrArg (fun z => x4 + z) (by decide)) (Nat.le_of_ble_eq_true rfl) rfl (fun ls hl => ?_)
        refine lv_goto (tgt := 31) hx hb dX8_mayLoad_74 (by decide) ?_
        exact hk31 x2 x3 (x4 + (1 : Int32)) _ _ _ (lv_sub hl [2, 3, 4, 5, 0] rfl) hG h
      · have h := ite_t c8 h
        exact n69 _ _ _ (lv_sub hl [] rfl) hG h
  have l31 : ∀  (F : Nat) (x2 : Int32) (x3 : Int32) (x4 : Int32) (H : Heap) (locs : List Loc) (ls : Array Slot), lv_has ls 6 [(0, .ref (g.2.1 0)), (1, .ref (g.2.1 4)), (2, .int x2), (3, .int x3), (4, .int x4)] → GW g s σ H locs → LN_mayLoad_l31 (σ.1 641) (σ.1 259) (σ.2.2.1 5) F x2 x3 x4 = some r → Wg p l e 2 43 s m args below meth c g (some (.int r)) σ H locs (F0 m 31 ls []) := by
    intro F
    induction F with
    | zero => intro x2 x3 x4 H locs ls hl hG h; exact no_some h
    | succ F ih => intro x2 x3 x4 H locs ls hl hG h; exact n31 (fun x2 x3 x4 => LN_mayLoad_l31 (σ.1 641) (σ.1 259) (σ.2.2.1 5) F x2 x3 x4) ih x2 x3 x4 H locs ls hl hG h
  refine lv_iload_n hx hb dX8_mayLoad_0 rfl (lv_at hl 2 rfl) ?_
  refine lv_if_lt (tgt := 26) hx hb dX8_mayLoad_1 (by decide) (fun c9 => ?_) (fun c9 => ?_)
  · have h := ite_t c9 h
    exact n26 _ _ _ (lv_sub hl [] rfl) hG h
  · have h := ite_f c9 h
    refine lv_iload_n hx hb dX8_mayLoad_4 rfl (lv_at hl 3 rfl) ?_
    refine lv_if_lt (tgt := 26) hx hb dX8_mayLoad_5 (by decide) (fun c10 => ?_) (fun c10 => ?_)
    · have h := ite_t c10 h
      exact n26 _ _ _ (lv_sub hl [] rfl) hG h
    · have h := ite_f c10 h
      refine lv_iload_n hx hb dX8_mayLoad_8 rfl (lv_at hl 2 rfl) ?_
      refine lv_i2l hx hb dX8_mayLoad_9 rfl ?_
      refine lv_ldc2 hx hb hown hw1 dX8_mayLoad_10 ?_
      refine lv_iload_n hx hb dX8_mayLoad_13 rfl (lv_at hl 3 rfl) ?_
      refine lv_i2l hx hb dX8_mayLoad_14 rfl ?_
      refine lv_lmul hx hb dX8_mayLoad_15 ?_
      refine lv_ladd hx hb dX8_mayLoad_16 ?_
      refine lv_aload_n hx hb dX8_mayLoad_17 rfl (lv_at hl 1 rfl) ?_
      refine gx_get (v := .int (σ.1 259)) (C := RX5) (T := TX5) (N := 4) hx hb hts mc_X5 hown hK hG (ga_4 g _) rfl 3 (by decide) hw2 rfl rfl dX8_mayLoad_18 ?_
      refine lv_i2l hx hb dX8_mayLoad_21 rfl ?_
      refine W.lcmp hx hb dX8_mayLoad_22 ?_
      refine lv_if_le (tgt := 28) hx hb dX8_mayLoad_23 (by decide) (fun c11 => ?_) (fun c11 => ?_)
      · have h := ite_t c11 h
        refine lv_iconst (v := (0 : Int32)) hx hb dX8_mayLoad_28 (by decide) ?_
        refine lv_istore (lv' := [(4, .int (0 : Int32)), (0, .ref (g.2.1 0)), (1, .ref (g.2.1 4)), (2, .int x2), (3, .int x3)]) hx hb dX8_mayLoad_29 hl (Nat.le_of_ble_eq_true rfl) rfl (fun ls hl => ?_)
        exact l31 FUEL x2 x3 (0 : Int32) _ _ _ (lv_sub hl [1, 2, 3, 4, 0] rfl) hG h
      · have h := ite_f c11 h
        exact n26 _ _ _ (lv_sub hl [] rfl) hG h

set_option maxHeartbeats 4000000 in
set_option maxRecDepth 100000 in
theorem c_LN_load_s1 (l : Launch) (g : GC) (σ : St) (x2 : Int32) (x3 : Int32) (r : Int32) (w_likeness_ready : Int32) (w_pairs_ready : Int32) (w_search_reach : Int32) (w_ways_ready : Int32) (w_now_near : Nat → Int32) (h : LN_load_s1 x2 x3 (σ.1 1539) (σ.1 641) (σ.1 2632) (σ.1 2372) (σ.1 259) (σ.1 257) (σ.1 1283) (σ.2.2.1 11) (σ.2.2.1 5) = some (r, w_likeness_ready, w_pairs_ready, w_search_reach, w_ways_ready, w_now_near)) : Cn l g yX8_load (Cond.code yX8_load cX8_load 7 (some .int) :: wG) 3 68 [.ref (g.2.1 0), .int (1 : Int32), .int x2, .int x3] σ (some (.int r)) (mkS σ [(1539, w_likeness_ready), (2632, w_pairs_ready), (2372, w_search_reach), (1283, w_ways_ready)] [] [(11, w_now_near)] []) := by
  unfold Cn
  refine Met.ofW (cc := cX8_load) (maxL := 7) (ret := (some .int)) (by decide) rfl ?_
  intro p e s m args below meth c s₁ B hml hv
  obtain ⟨hargs, hP0, hK⟩ := hv
  have hx := B.exec
  have hb := B.bytes
  have hr := B.returns
  have hts : ∀ w ∈ wG, w.before args s = true := fun w h => atoms_spec (ws := (Cond.code yX8_load cX8_load 7 (some .int) :: wG)) B.pre w (List.mem_cons_of_mem _ h)
  have hown : s.vm.findClass RX8 = some m.cls := findClass_of_methodNamed B.named
  have hlocks := B.notSynchronized
  have hS9 : CallFix p m c cX8_load 7 s args wG RX8 := ⟨hx, hb, hml, hown, hts⟩
  have hw0 := hts _ mw_2_38
  have hw1 := hts _ mw_2_37
  have hw2 := hts _ mw_1_33
  have hf9 : entryFrame m args 7 = _ := (congrArg (fun a => entryFrame m a 7) hargs).trans (lg_entry_eq m [.ref (g.2.1 0), .int (1 : Int32), .int x2, .int x3] 7)
  show Wg p l e 3 68 s m args below meth c g (some (.int r)) (mkS σ [(1539, w_likeness_ready), (2632, w_pairs_ready), (2372, w_search_reach), (1283, w_ways_ready)] [] [(11, w_now_near)] []) s.heap [] (entryFrame m args 7)
  rw [hf9]
  have hl := lv_entry ([.ref (g.2.1 0), .int (1 : Int32), .int x2, .int x3]) (n := 7) (Nat.le_of_ble_eq_true rfl)
  generalize (lg_sl ([.ref (g.2.1 0), .int (1 : Int32), .int x2, .int x3]) ++ List.replicate (7 - (lg_sl ([.ref (g.2.1 0), .int (1 : Int32), .int x2, .int x3])).length) Slot.unset).toArray = ls at hl ⊢
  have hl : lv_has ls 7 [(0, .ref (g.2.1 0)), (1, .int (1 : Int32)), (2, .int x2), (3, .int x3)] := hl
  have hG : GW g s σ s.heap [] := ⟨hP0, va_S.rf⟩
  have hG : GW g s (mkS σ [(1539, (σ.1 1539)), (2632, (σ.1 2632)), (2372, (σ.1 2372)), (1283, (σ.1 1283))] [] [(11, (σ.2.2.1 11))] []) s.heap [] := GW_self [1539, 2632, 2372, 1283] [] [11] [] hG
  unfold LN_load_s1 at h
  have n104 : ∀ (x4 : Int32) (v_likeness_ready : Int32) (v_pairs_ready : Int32) (v_search_reach : Int32) (v_ways_ready : Int32) (v_now_near : Nat → Int32) (H : Heap) (locs : List Loc) (ls : Array Slot), lv_has ls 7 [(0, .ref (g.2.1 0)), (4, .int x4)] → GW g s (mkS σ [(1539, v_likeness_ready), (2632, v_pairs_ready), (2372, v_search_reach), (1283, v_ways_ready)] [] [(11, v_now_near)] []) H locs → LN_load_s1_n104 (σ.1 641) x4 v_likeness_ready v_pairs_ready v_search_reach v_ways_ready v_now_near = some (r, w_likeness_ready, w_pairs_ready, w_search_reach, w_ways_ready, w_now_near) → Wg p l e 3 68 s m args below meth c g (some (.int r)) (mkS σ [(1539, w_likeness_ready), (2632, w_pairs_ready), (2372, w_search_reach), (1283, w_ways_ready)] [] [(11, w_now_near)] []) H locs (F0 m 104 ls []) := by
    intro x4 v_likeness_ready v_pairs_ready v_search_reach v_ways_ready v_now_near H locs ls hl hG h
    unfold LN_load_s1_n104 at h
    refine lv_aload_n hx hb dX8_load_104 rfl (lv_at hl 0 rfl) ?_
    obtain ⟨z1, hc2, h⟩ := bnd_some h
    refine gx_cV (σ' := (mkS σ [(1539, z1.1), (2632, z1.2.1), (2372, z1.2.2.1), (1283, z1.2.2.2)] [] [(11, v_now_near)] [])) (r := none) (rest := []) (As := []) hS9 (c_LN_forget l g (mkS σ [(1539, v_likeness_ready), (2632, v_pairs_ready), (2372, v_search_reach), (1283, v_ways_ready)] [] [(11, v_now_near)] []) z1.1 z1.2.1 z1.2.2.1 z1.2.2.2 hc2) (mk_mk rfl rfl rfl rfl) (cwV 0 hts (gz_V mw_2_114 mw_2_116 ms_1_0 mw_1_1 mw_2_117) rfl rfl rfl hdV_X8_forget ⟨Nat.le_of_ble_eq_true rfl, Nat.le_of_ble_eq_true rfl⟩) hK hG (ga_0 g _) rfl rfl rfl hl.1 rfl (Nat.le_of_ble_eq_true rfl) dX8_load_105 (fun H locs hG => ?_)
    refine W.eq (g2 := F0 m 108 ls []) rfl ?_
    refine lv_aload_n hx hb dX8_load_108 rfl (lv_at hl 0 rfl) ?_
    refine gx_get (v := .ref (g.2.1 10)) (C := RX8) (T := TX8) (N := 13) hx hb hts mc_X8 hown hK hG (ga_0 g _) rfl 1 (by decide) hw0 rfl rfl dX8_load_109 ?_
    obtain ⟨z3, hc4, h⟩ := bnd_some h
    refine gx_cV (σ' := (mkS σ [(1539, z1.1), (2632, z1.2.1), (2372, z1.2.2.1), (1283, z1.2.2.2)] [] [(11, v_now_near)] [])) (r := (some (.int z3))) (rest := []) (As := []) hS9 (c_Net_roads_10 l g (mkS σ [(1539, z1.1), (2632, z1.2.1), (2372, z1.2.2.1), (1283, z1.2.2.2)] [] [(11, v_now_near)] []) z3 hc4) rfl (cwV 0 hts (gz_V mw_2_160 mw_2_161 mw_2_162 mw_1_3 mw_2_163) rfl rfl rfl hdV_X2_roads ⟨Nat.le_of_ble_eq_true rfl, Nat.le_of_ble_eq_true rfl⟩) hK hG (ga_10 g _) rfl rfl rfl hl.1 rfl (Nat.le_of_ble_eq_true rfl) dX8_load_112 (fun H locs hG => ?_)
    refine W.eq (g2 := F0 m 115 ls [.int z3]) rfl ?_
    refine lv_iload hx hb dX8_load_115 (lv_at hl 1 rfl) ?_
    refine lv_isub hx hb dX8_load_117 ?_
    cases h
    exact gx_iret hx hb hr hlocks hG dX8_load_118
  have n53 : ∀ (k53 : Int32 → Int32 → Int32 → Int32 → Int32 → Int32 → Int32 → Int32 → (Nat → Int32) → Option (Int32 × Int32 × Int32 × Int32 × Int32 × (Nat → Int32))) (hk53 : ∀ (x2 : Int32) (x3 : Int32) (x4 : Int32) (x5 : Int32) (v_likeness_ready : Int32) (v_pairs_ready : Int32) (v_search_reach : Int32) (v_ways_ready : Int32) (v_now_near : Nat → Int32) (H : Heap) (locs : List Loc) (ls : Array Slot), lv_has ls 7 [(0, .ref (g.2.1 0)), (1, .int (1 : Int32)), (2, .int x2), (3, .int x3), (4, .int x4), (5, .int x5)] → GW g s (mkS σ [(1539, v_likeness_ready), (2632, v_pairs_ready), (2372, v_search_reach), (1283, v_ways_ready)] [] [(11, v_now_near)] []) H locs → k53 x2 x3 x4 x5 v_likeness_ready v_pairs_ready v_search_reach v_ways_ready v_now_near = some (r, w_likeness_ready, w_pairs_ready, w_search_reach, w_ways_ready, w_now_near) → Wg p l e 3 68 s m args below meth c g (some (.int r)) (mkS σ [(1539, w_likeness_ready), (2632, w_pairs_ready), (2372, w_search_reach), (1283, w_ways_ready)] [] [(11, w_now_near)] []) H locs (F0 m 53 ls [])) (x2 : Int32) (x3 : Int32) (x4 : Int32) (x5 : Int32) (v_likeness_ready : Int32) (v_pairs_ready : Int32) (v_search_reach : Int32) (v_ways_ready : Int32) (v_now_near : Nat → Int32) (H : Heap) (locs : List Loc) (ls : Array Slot), lv_has ls 7 [(0, .ref (g.2.1 0)), (1, .int (1 : Int32)), (2, .int x2), (3, .int x3), (4, .int x4), (5, .int x5)] → GW g s (mkS σ [(1539, v_likeness_ready), (2632, v_pairs_ready), (2372, v_search_reach), (1283, v_ways_ready)] [] [(11, v_now_near)] []) H locs → LN_load_s1_n53 k53 (σ.1 641) (σ.1 259) (σ.2.2.1 5) x2 x3 x4 x5 v_likeness_ready v_pairs_ready v_search_reach v_ways_ready v_now_near = some (r, w_likeness_ready, w_pairs_ready, w_search_reach, w_ways_ready, w_now_near) → Wg p l e 3 68 s m args below meth c g (some (.int r)) (mkS σ [(1539, w_likeness_ready), (2632, w_pairs_ready), (2372, w_search_reach), (1283, w_ways_ready)] [] [(11, w_now_near)] []) H locs (F0 m 53 ls []) := by
    intro k53 hk53 x2 x3 x4 x5 v_likeness_ready v_pairs_ready v_search_reach v_ways_ready v_now_near H locs ls hl hG h
    unfold LN_load_s1_n53 at h
    refine lv_iload hx hb dX8_load_53 (lv_at hl 5 rfl) ?_
    refine lv_iload_n hx hb dX8_load_55 rfl (lv_at hl 3 rfl) ?_
    refine lv_icmp_ge (tgt := 104) hx hb dX8_load_56 (by decide) (fun c5 => ?_) (fun c5 => ?_)
    · have h := ite_t c5 h
      exact n104 x4 v_likeness_ready v_pairs_ready v_search_reach v_ways_ready v_now_near _ _ _ (lv_sub hl [0, 4] rfl) hG h
    · have h := ite_f c5 h
      refine lv_iload_n hx hb dX8_load_59 rfl (lv_at hl 2 rfl) ?_
      refine lv_iconst (v := (2 : Int32)) hx hb dX8_load_60 (by decide) ?_
      refine lv_iload hx hb dX8_load_61 (lv_at hl 5 rfl) ?_
      refine lv_imul hx hb dX8_load_63 ?_
      refine lv_iadd hx hb dX8_load_64 ?_
      refine lv_istore (lv' := [(6, .int (x2 + ((2 : Int32) * x5))), (0, .ref (g.2.1 0)), (1, .int (1 : Int32)), (2, .int x2), (3, .int x3), (4, .int x4), (5, .int x5)]) hx hb dX8_load_65 hl (Nat.le_of_ble_eq_true rfl) rfl (fun ls hl => ?_)
      refine lv_aload_n hx hb dX8_load_67 rfl (lv_at hl 1 rfl) ?_
      refine gx_get (v := .ref (g.2.1 10)) (C := RX8) (T := TX8) (N := 13) hx hb hts mc_X8 hown hK hG (ga_0 g _) rfl 1 (by decide) hw0 rfl rfl dX8_load_68 ?_
      refine lv_aload_n hx hb dX8_load_71 rfl (lv_at hl 1 rfl) ?_
      refine gx_get (v := .ref (g.2.1 1)) (C := RX8) (T := TX8) (N := 13) hx hb hts mc_X8 hown hK hG (ga_0 g _) rfl 0 (by decide) hw1 rfl rfl dX8_load_72 ?_
      refine lv_iload_n hx hb dX8_load_75 rfl (lv_at hl 2 rfl) ?_
      refine gx_aald (v := .ref (g.2.1 4)) hx hb hK hG (ga_1 g _) (by decide) rfl dX8_load_76 ?_
      refine lv_iload hx hb dX8_load_77 (lv_at hl 0 rfl) ?_
      obtain ⟨z6, hc7, h⟩ := bnd_some h
      refine gx_cV (σ' := (mkS σ [(1539, v_likeness_ready), (2632, v_pairs_ready), (2372, v_search_reach), (1283, v_ways_ready)] [] [(11, v_now_near)] [])) (r := (some (.int z6))) (rest := [.ref (g.2.1 10)]) (As := [.int (x2 + ((2 : Int32) * x5))]) hS9 (c_Sh_read_4 l g (mkS σ [(1539, v_likeness_ready), (2632, v_pairs_ready), (2372, v_search_reach), (1283, v_ways_ready)] [] [(11, v_now_near)] []) (x2 + ((2 : Int32) * x5)) z6 hc7) rfl (cwV 1 hts (gz_V mw_2_155 mw_2_156 mw_2_157 mw_1_2 mw_2_158) rfl rfl rfl hdV_X5_read ⟨Nat.le_of_ble_eq_true rfl, Nat.le_of_ble_eq_true rfl⟩) hK hG (ga_4 g _) rfl rfl rfl hl.1 rfl (Nat.le_of_ble_eq_true rfl) dX8_load_79 (fun H locs hG => ?_)
      refine W.eq (g2 := F0 m 82 ls [.int z6, .ref (g.2.1 10)]) rfl ?_
      refine lv_aload_n hx hb dX8_load_82 rfl (lv_at hl 1 rfl) ?_
      refine gx_get (v := .ref (g.2.1 1)) (C := RX8) (T := TX8) (N := 13) hx hb hts mc_X8 hown hK hG (ga_0 g _) rfl 0 (by decide) hw1 rfl rfl dX8_load_83 ?_
      refine lv_iload_n hx hb dX8_load_86 rfl (lv_at hl 2 rfl) ?_
      refine gx_aald (v := .ref (g.2.1 4)) hx hb hK hG (ga_1 g _) (by decide) rfl dX8_load_87 ?_
      refine lv_iload hx hb dX8_load_88 (lv_at hl 0 rfl) ?_
      refine lv_iconst (v := (1 : Int32)) hx hb dX8_load_90 (by decide) ?_
      refine lv_iadd hx hb dX8_load_91 ?_
      obtain ⟨z8, hc9, h⟩ := bnd_some h
      refine gx_cV (σ' := (mkS σ [(1539, v_likeness_ready), (2632, v_pairs_ready), (2372, v_search_reach), (1283, v_ways_ready)] [] [(11, v_now_near)] [])) (r := (some (.int z8))) (rest := [.int z6, .ref (g.2.1 10)]) (As := [.int ((x2 + ((2 : Int32) * x5)) + (1 : Int32))]) hS9 (c_Sh_read_4 l g (mkS σ [(1539, v_likeness_ready), (2632, v_pairs_ready), (2372, v_search_reach), (1283, v_ways_ready)] [] [(11, v_now_near)] []) ((x2 + ((2 : Int32) * x5)) + (1 : Int32)) z8 hc9) rfl (cwV 1 hts (gz_V mw_2_155 mw_2_156 mw_2_157 mw_1_2 mw_2_158) rfl rfl rfl hdV_X5_read ⟨Nat.le_of_ble_eq_true rfl, Nat.le_of_ble_eq_true rfl⟩) hK hG (ga_4 g _) rfl rfl rfl hl.1 rfl (Nat.le_of_ble_eq_true rfl) dX8_load_92 (fun H locs hG => ?_)
      refine W.eq (g2 := F0 m 95 ls [.int z8, .int z6, .ref (g.2.1 10)]) rfl ?_
      obtain ⟨z10, hc11, h⟩ := bnd_some h
      refine gx_cV (σ' := (mkS σ [(1539, v_likeness_ready), (2632, v_pairs_ready), (2372, v_search_reach), (1283, v_ways_ready)] [] [(11, z10)] [])) (r := none) (rest := []) (As := [.int z6, .int z8]) hS9 (c_Net_join_10 l g (mkS σ [(1539, v_likeness_ready), (2632, v_pairs_ready), (2372, v_search_reach), (1283, v_ways_ready)] [] [(11, v_now_near)] []) z6 z8 z10 hc11) (mk_mk rfl rfl rfl rfl) (cwV 2 hts (gz_V mw_2_137 mw_2_138 mw_2_139 mw_1_3 mw_2_140) rfl rfl rfl hdV_X2_join ⟨Nat.le_of_ble_eq_true rfl, Nat.le_of_ble_eq_true rfl⟩) hK hG (ga_10 g _) rfl rfl rfl hl.1 rfl (Nat.le_of_ble_eq_true rfl) dX8_load_95 (fun H locs hG => ?_)
      refine W.eq (g2 := F0 m 98 ls []) rfl ?_
      refine lv_iinc (v := (x5 + (1 : Int32))) (lv' := [(5, .int (x5 + (1 : Int32))), (6, .int (x2 + ((2 : Int32) * x5))), (0, .ref (g.2.1 0)), (1, .int (1 : Int32)), (2, .int x2), (3, .int x3), (4, .int x4)]) hx hb dX8_load_98 hl (k := 6) rfl (congrArg (fun z => x5 + z) (by decide)) (Nat.le_of_ble_eq_true rfl) rfl (fun ls hl => ?_)
      refine lv_goto (tgt := 53) hx hb dX8_load_101 (by decide) ?_
      exact hk53 x2 x3 x4 (x5 + (1 : Int32)) v_likeness_ready v_pairs_ready v_search_reach v_ways_ready z10 _ _ _ (lv_sub hl [2, 3, 4, 5, 6, 0] rfl) hG h
  have l53 : ∀  (F : Nat) (x2 : Int32) (x3 : Int32) (x4 : Int32) (x5 : Int32) (v_likeness_ready : Int32) (v_pairs_ready : Int32) (v_search_reach : Int32) (v_ways_ready : Int32) (v_now_near : Nat → Int32) (H : Heap) (locs : List Loc) (ls : Array Slot), lv_has ls 7 [(0, .ref (g.2.1 0)), (1, .int (1 : Int32)), (2, .int x2), (3, .int x3), (4, .int x4), (5, .int x5)] → GW g s (mkS σ [(1539, v_likeness_ready), (2632, v_pairs_ready), (2372, v_search_reach), (1283, v_ways_ready)] [] [(11, v_now_near)] []) H locs → LN_load_s1_l53 (σ.1 641) (σ.1 259) (σ.2.2.1 5) F x2 x3 x4 x5 v_likeness_ready v_pairs_ready v_search_reach v_ways_ready v_now_near = some (r, w_likeness_ready, w_pairs_ready, w_search_reach, w_ways_ready, w_now_near) → Wg p l e 3 68 s m args below meth c g (some (.int r)) (mkS σ [(1539, w_likeness_ready), (2632, w_pairs_ready), (2372, w_search_reach), (1283, w_ways_ready)] [] [(11, w_now_near)] []) H locs (F0 m 53 ls []) := by
    intro F
    induction F with
    | zero => intro x2 x3 x4 x5 v_likeness_ready v_pairs_ready v_search_reach v_ways_ready v_now_near H locs ls hl hG h; exact no_some h
    | succ F ih => intro x2 x3 x4 x5 v_likeness_ready v_pairs_ready v_search_reach v_ways_ready v_now_near H locs ls hl hG h; exact n53 (fun x2 x3 x4 x5 v_likeness_ready v_pairs_ready v_search_reach v_ways_ready v_now_near => LN_load_s1_l53 (σ.1 641) (σ.1 259) (σ.2.2.1 5) F x2 x3 x4 x5 v_likeness_ready v_pairs_ready v_search_reach v_ways_ready v_now_near) ih x2 x3 x4 x5 v_likeness_ready v_pairs_ready v_search_reach v_ways_ready v_now_near H locs ls hl hG h
  refine lv_iload_n hx hb dX8_load_0 rfl (lv_at hl 1 rfl) ?_
  obtain ⟨z12, hc13, h⟩ := bnd_some h
  refine gx_cS (σ' := (mkS σ [(1539, (σ.1 1539)), (2632, (σ.1 2632)), (2372, (σ.1 2372)), (1283, (σ.1 1283))] [] [(11, (σ.2.2.1 11))] [])) (r := (some (.int z12))) (rest := []) (As := [.int (1 : Int32)]) hS9 (c_LN_isSheet l g (mkS σ [(1539, (σ.1 1539)), (2632, (σ.1 2632)), (2372, (σ.1 2372)), (1283, (σ.1 1283))] [] [(11, (σ.2.2.1 11))] []) (1 : Int32) z12 hc13) rfl (va_cwS 1 hts (gz_S mw_2_81 mw_2_82 mw_1_1 mw_2_83) rfl rfl rfl hdS_X8_isSheet ⟨Nat.le_of_ble_eq_true rfl, Nat.le_of_ble_eq_true rfl⟩) hK hG rfl hl.1 rfl (Nat.le_of_ble_eq_true rfl) dX8_load_1 (fun H locs hG => ?_)
  refine W.eq (g2 := F0 m 4 ls [.int z12]) rfl ?_
  refine lv_if_ne (tgt := 9) hx hb dX8_load_4 (by decide) (fun c14 => ?_) (fun c14 => ?_)
  · have h := ite_f c14 h
    refine lv_aload_n hx hb dX8_load_9 rfl (lv_at hl 0 rfl) ?_
    refine gx_get (v := .ref (g.2.1 1)) (C := RX8) (T := TX8) (N := 13) hx hb hts mc_X8 hown hK hG (ga_0 g _) rfl 0 (by decide) hw1 rfl rfl dX8_load_10 ?_
    refine lv_iload_n hx hb dX8_load_13 rfl (lv_at hl 1 rfl) ?_
    refine gx_aald (v := .ref (g.2.1 4)) hx hb hK hG (ga_1 g _) (by decide) rfl dX8_load_14 ?_
    refine gx_get (v := .int (σ.1 257)) (C := RX5) (T := TX5) (N := 4) hx hb hts mc_X5 hown hK hG (ga_4 g _) rfl 1 (by decide) hw2 rfl rfl dX8_load_15 ?_
    refine lv_if_ne (tgt := 24) hx hb dX8_load_18 (by decide) (fun c15 => ?_) (fun c15 => ?_)
    · have h := ite_f c15 h
      refine lv_aload_n hx hb dX8_load_24 rfl (lv_at hl 0 rfl) ?_
      refine lv_aload_n hx hb dX8_load_25 rfl (lv_at hl 0 rfl) ?_
      refine gx_get (v := .ref (g.2.1 1)) (C := RX8) (T := TX8) (N := 13) hx hb hts mc_X8 hown hK hG (ga_0 g _) rfl 0 (by decide) hw1 rfl rfl dX8_load_26 ?_
      refine lv_iload_n hx hb dX8_load_29 rfl (lv_at hl 1 rfl) ?_
      refine gx_aald (v := .ref (g.2.1 4)) hx hb hK hG (ga_1 g _) (by decide) rfl dX8_load_30 ?_
      refine lv_iload_n hx hb dX8_load_31 rfl (lv_at hl 2 rfl) ?_
      refine lv_iload_n hx hb dX8_load_32 rfl (lv_at hl 3 rfl) ?_
      obtain ⟨z16, hc17, h⟩ := bnd_some h
      refine gx_cV (σ' := (mkS σ [(1539, (σ.1 1539)), (2632, (σ.1 2632)), (2372, (σ.1 2372)), (1283, (σ.1 1283))] [] [(11, (σ.2.2.1 11))] [])) (r := (some (.int z16))) (rest := []) (As := [.ref (g.2.1 4), .int x2, .int x3]) hS9 (c_LN_mayLoad_0_4 l g (mkS σ [(1539, (σ.1 1539)), (2632, (σ.1 2632)), (2372, (σ.1 2372)), (1283, (σ.1 1283))] [] [(11, (σ.2.2.1 11))] []) x2 x3 z16 hc17) rfl (cwV 3 hts (gz_V mw_2_150 mw_2_152 ms_1_1 mw_1_1 mw_2_153) rfl rfl rfl hdV_X8_mayLoad ⟨Nat.le_of_ble_eq_true rfl, Nat.le_of_ble_eq_true rfl⟩) hK hG (ga_0 g _) rfl rfl rfl hl.1 rfl (Nat.le_of_ble_eq_true rfl) dX8_load_33 (fun H locs hG => ?_)
      refine W.eq (g2 := F0 m 36 ls [.int z16]) rfl ?_
      refine lv_if_ne (tgt := 41) hx hb dX8_load_36 (by decide) (fun c18 => ?_) (fun c18 => ?_)
      · have h := ite_f c18 h
        refine lv_aload_n hx hb dX8_load_41 rfl (lv_at hl 0 rfl) ?_
        refine gx_get (v := .ref (g.2.1 10)) (C := RX8) (T := TX8) (N := 13) hx hb hts mc_X8 hown hK hG (ga_0 g _) rfl 1 (by decide) hw0 rfl rfl dX8_load_42 ?_
        obtain ⟨z19, hc20, h⟩ := bnd_some h
        refine gx_cV (σ' := (mkS σ [(1539, (σ.1 1539)), (2632, (σ.1 2632)), (2372, (σ.1 2372)), (1283, (σ.1 1283))] [] [(11, (σ.2.2.1 11))] [])) (r := (some (.int z19))) (rest := []) (As := []) hS9 (c_Net_roads_10 l g (mkS σ [(1539, (σ.1 1539)), (2632, (σ.1 2632)), (2372, (σ.1 2372)), (1283, (σ.1 1283))] [] [(11, (σ.2.2.1 11))] []) z19 hc20) rfl (cwV 0 hts (gz_V mw_2_160 mw_2_161 mw_2_162 mw_1_3 mw_2_163) rfl rfl rfl hdV_X2_roads ⟨Nat.le_of_ble_eq_true rfl, Nat.le_of_ble_eq_true rfl⟩) hK hG (ga_10 g _) rfl rfl rfl hl.1 rfl (Nat.le_of_ble_eq_true rfl) dX8_load_45 (fun H locs hG => ?_)
        refine W.eq (g2 := F0 m 48 ls [.int z19]) rfl ?_
        refine lv_istore (lv' := [(4, .int z19), (0, .ref (g.2.1 0)), (1, .int (1 : Int32)), (2, .int x2), (3, .int x3)]) hx hb dX8_load_48 hl (Nat.le_of_ble_eq_true rfl) rfl (fun ls hl => ?_)
        refine lv_iconst (v := (0 : Int32)) hx hb dX8_load_50 (by decide) ?_
        refine lv_istore (lv' := [(5, .int (0 : Int32)), (4, .int z19), (0, .ref (g.2.1 0)), (1, .int (1 : Int32)), (2, .int x2), (3, .int x3)]) hx hb dX8_load_51 hl (Nat.le_of_ble_eq_true rfl) rfl (fun ls hl => ?_)
        exact l53 FUEL x2 x3 z19 (0 : Int32) (σ.1 1539) (σ.1 2632) (σ.1 2372) (σ.1 1283) (σ.2.2.1 11) _ _ _ (lv_sub hl [2, 3, 4, 5, 1, 0] rfl) hG h
      · have h := ite_t c18 h
        refine lv_iconst (v := (-1 : Int32)) hx hb dX8_load_39 (by decide) ?_
        cases h
        exact gx_iret hx hb hr hlocks hG dX8_load_40
    · have h := ite_t c15 h
      refine lv_bipush (v := (-3 : Int32)) hx hb dX8_load_21 (by decide) ?_
      cases h
      exact gx_iret hx hb hr hlocks hG dX8_load_23
  · have h := ite_t c14 h
    refine lv_iconst (v := (-1 : Int32)) hx hb dX8_load_7 (by decide) ?_
    cases h
    exact gx_iret hx hb hr hlocks hG dX8_load_8

set_option maxHeartbeats 4000000 in
set_option maxRecDepth 100000 in
theorem c_Sh_read_6 (l : Launch) (g : GC) (σ : St) (x1 : Int32) (r : Int32) (h : Sh_read x1 (σ.1 387) (σ.2.2.1 7) = some r) : Cn l g yX5_read (Cond.code yX5_read cX5_read 2 (some .int) :: wG) 1 21 [.ref (g.2.1 6), .int x1] σ (some (.int r)) σ := by
  unfold Cn
  refine Met.ofW (cc := cX5_read) (maxL := 2) (ret := (some .int)) (by decide) rfl ?_
  intro p e s m args below meth c s₁ B hml hv
  obtain ⟨hargs, hP0, hK⟩ := hv
  have hx := B.exec
  have hb := B.bytes
  have hr := B.returns
  have hts : ∀ w ∈ wG, w.before args s = true := fun w h => atoms_spec (ws := (Cond.code yX5_read cX5_read 2 (some .int) :: wG)) B.pre w (List.mem_cons_of_mem _ h)
  have hown : s.vm.findClass RX5 = some m.cls := findClass_of_methodNamed B.named
  have hlocks := B.notSynchronized
  have hS9 : CallFix p m c cX5_read 2 s args wG RX5 := ⟨hx, hb, hml, hown, hts⟩
  have hw0 := hts _ mw_1_31
  have hf9 : entryFrame m args 2 = _ := (congrArg (fun a => entryFrame m a 2) hargs).trans (lg_entry_eq m [.ref (g.2.1 6), .int x1] 2)
  show Wg p l e 1 21 s m args below meth c g (some (.int r)) σ s.heap [] (entryFrame m args 2)
  rw [hf9]
  have hl := lv_entry ([.ref (g.2.1 6), .int x1]) (n := 2) (Nat.le_of_ble_eq_true rfl)
  generalize (lg_sl ([.ref (g.2.1 6), .int x1]) ++ List.replicate (2 - (lg_sl ([.ref (g.2.1 6), .int x1])).length) Slot.unset).toArray = ls at hl ⊢
  have hl : lv_has ls 2 [(0, .ref (g.2.1 6)), (1, .int x1)] := hl
  have hG : GW g s σ s.heap [] := ⟨hP0, va_S.rf⟩
  unfold Sh_read at h
  have n18 : ∀ (t0 : Int32) (H : Heap) (locs : List Loc) (ls : Array Slot), lv_has ls 2 [] → GW g s σ H locs → Sh_read_n18 t0 = some r → Wg p l e 1 21 s m args below meth c g (some (.int r)) σ H locs (F0 m 18 ls [.int t0]) := by
    intro t0 H locs ls hl hG h
    unfold Sh_read_n18 at h
    cases h
    exact gx_iret hx hb hr hlocks hG dX5_read_18
  refine lv_aload_n hx hb dX5_read_0 rfl (lv_at hl 0 rfl) ?_
  refine lv_iload_n hx hb dX5_read_1 rfl (lv_at hl 1 rfl) ?_
  obtain ⟨z1, hc2, h⟩ := bnd_some h
  refine gx_cV (σ' := σ) (r := (some (.int z1))) (rest := []) (As := [.int x1]) hS9 (c_Sh_has_6 l g σ x1 z1 hc2) rfl (cwV 1 hts (gz_V mw_2_159 mw_2_94 mw_2_95 mw_1_2 mw_2_96) rfl rfl rfl hdV_X5_has ⟨Nat.le_of_ble_eq_true rfl, Nat.le_of_ble_eq_true rfl⟩) hK hG (ga_6 g _) rfl rfl rfl hl.1 rfl (Nat.le_of_ble_eq_true rfl) dX5_read_2 (fun H locs hG => ?_)
  refine W.eq (g2 := F0 m 5 ls [.int z1]) rfl ?_
  refine lv_if_eq (tgt := 17) hx hb dX5_read_5 (by decide) (fun c3 => ?_) (fun c3 => ?_)
  · have h := ite_t c3 h
    refine lv_iconst (v := (-1 : Int32)) hx hb dX5_read_17 (by decide) ?_
    exact n18 (-1 : Int32) _ _ _ (lv_sub hl [] rfl) hG h
  · have h := ite_f c3 h
    refine lv_aload_n hx hb dX5_read_8 rfl (lv_at hl 0 rfl) ?_
    refine gx_get (v := .ref (g.2.1 7)) (C := RX5) (T := TX5) (N := 4) hx hb hts mc_X5 hown hK hG (ga_6 g _) rfl 0 (by decide) hw0 rfl rfl dX5_read_9 ?_
    refine lv_iload_n hx hb dX5_read_12 rfl (lv_at hl 1 rfl) ?_
    obtain ⟨hg4, h⟩ := gd_some h
    refine gx_iald (f := (σ.2.2.1 7)) hx hb hK hG (ga_7 g _) hg4 dX5_read_13 ?_
    refine lv_goto (tgt := 18) hx hb dX5_read_14 (by decide) ?_
    exact n18 ((σ.2.2.1 7) (x1.toNatClampNeg)) _ _ _ (lv_sub hl [] rfl) hG h

set_option maxHeartbeats 4000000 in
set_option maxRecDepth 100000 in
theorem c_LN_mayLoad_0_6 (l : Launch) (g : GC) (σ : St) (x2 : Int32) (x3 : Int32) (r : Int32) (h : LN_mayLoad x2 x3 (σ.1 641) (σ.1 387) (σ.2.2.1 7) = some r) : Cn l g yX8_mayLoad (Cond.code yX8_mayLoad cX8_mayLoad 6 (some .boolean) :: wG) 2 43 [.ref (g.2.1 0), .ref (g.2.1 6), .int x2, .int x3] σ (some (.int r)) σ := by
  unfold Cn
  refine Met.ofW (cc := cX8_mayLoad) (maxL := 6) (ret := (some .boolean)) (by decide) rfl ?_
  intro p e s m args below meth c s₁ B hml hv
  obtain ⟨hargs, hP0, hK⟩ := hv
  have hx := B.exec
  have hb := B.bytes
  have hr := B.returns
  have hts : ∀ w ∈ wG, w.before args s = true := fun w h => atoms_spec (ws := (Cond.code yX8_mayLoad cX8_mayLoad 6 (some .boolean) :: wG)) B.pre w (List.mem_cons_of_mem _ h)
  have hown : s.vm.findClass RX8 = some m.cls := findClass_of_methodNamed B.named
  have hlocks := B.notSynchronized
  have hS9 : CallFix p m c cX8_mayLoad 6 s args wG RX8 := ⟨hx, hb, hml, hown, hts⟩
  have hw0 := hts _ mw_2_38
  have hw1 := hts _ mw_2_154
  have hw2 := hts _ mw_1_36
  have hf9 : entryFrame m args 6 = _ := (congrArg (fun a => entryFrame m a 6) hargs).trans (lg_entry_eq m [.ref (g.2.1 0), .ref (g.2.1 6), .int x2, .int x3] 6)
  show Wg p l e 2 43 s m args below meth c g (some (.int r)) σ s.heap [] (entryFrame m args 6)
  rw [hf9]
  have hl := lv_entry ([.ref (g.2.1 0), .ref (g.2.1 6), .int x2, .int x3]) (n := 6) (Nat.le_of_ble_eq_true rfl)
  generalize (lg_sl ([.ref (g.2.1 0), .ref (g.2.1 6), .int x2, .int x3]) ++ List.replicate (6 - (lg_sl ([.ref (g.2.1 0), .ref (g.2.1 6), .int x2, .int x3])).length) Slot.unset).toArray = ls at hl ⊢
  have hl : lv_has ls 6 [(0, .ref (g.2.1 0)), (1, .ref (g.2.1 6)), (2, .int x2), (3, .int x3)] := hl
  have hG : GW g s σ s.heap [] := ⟨hP0, va_S.rf⟩
  unfold LN_mayLoad at h
  have n26 : ∀  (H : Heap) (locs : List Loc) (ls : Array Slot), lv_has ls 6 [] → GW g s σ H locs → LN_mayLoad_n26 = some r → Wg p l e 2 43 s m args below meth c g (some (.int r)) σ H locs (F0 m 26 ls []) := by
    intro H locs ls hl hG h
    unfold LN_mayLoad_n26 at h
    refine lv_iconst (v := (0 : Int32)) hx hb dX8_mayLoad_26 (by decide) ?_
    cases h
    exact gx_zret hx hb hr hlocks (by decide) hG dX8_mayLoad_27
  have n69 : ∀  (H : Heap) (locs : List Loc) (ls : Array Slot), lv_has ls 6 [] → GW g s σ H locs → LN_mayLoad_n69 = some r → Wg p l e 2 43 s m args below meth c g (some (.int r)) σ H locs (F0 m 69 ls []) := by
    intro H locs ls hl hG h
    unfold LN_mayLoad_n69 at h
    refine lv_iconst (v := (0 : Int32)) hx hb dX8_mayLoad_69 (by decide) ?_
    cases h
    exact gx_zret hx hb hr hlocks (by decide) hG dX8_mayLoad_70
  have n77 : ∀  (H : Heap) (locs : List Loc) (ls : Array Slot), lv_has ls 6 [] → GW g s σ H locs → LN_mayLoad_n77 = some r → Wg p l e 2 43 s m args below meth c g (some (.int r)) σ H locs (F0 m 77 ls []) := by
    intro H locs ls hl hG h
    unfold LN_mayLoad_n77 at h
    refine lv_iconst (v := (1 : Int32)) hx hb dX8_mayLoad_77 (by decide) ?_
    cases h
    exact gx_zret hx hb hr hlocks (by decide) hG dX8_mayLoad_78
  have n31 : ∀ (k31 : Int32 → Int32 → Int32 → Option (Int32)) (hk31 : ∀ (x2 : Int32) (x3 : Int32) (x4 : Int32) (H : Heap) (locs : List Loc) (ls : Array Slot), lv_has ls 6 [(0, .ref (g.2.1 0)), (1, .ref (g.2.1 6)), (2, .int x2), (3, .int x3), (4, .int x4)] → GW g s σ H locs → k31 x2 x3 x4 = some r → Wg p l e 2 43 s m args below meth c g (some (.int r)) σ H locs (F0 m 31 ls [])) (x2 : Int32) (x3 : Int32) (x4 : Int32) (H : Heap) (locs : List Loc) (ls : Array Slot), lv_has ls 6 [(0, .ref (g.2.1 0)), (1, .ref (g.2.1 6)), (2, .int x2), (3, .int x3), (4, .int x4)] → GW g s σ H locs → LN_mayLoad_n31 k31 (σ.1 641) (σ.1 387) (σ.2.2.1 7) x2 x3 x4 = some r → Wg p l e 2 43 s m args below meth c g (some (.int r)) σ H locs (F0 m 31 ls []) := by
    intro k31 hk31 x2 x3 x4 H locs ls hl hG h
    unfold LN_mayLoad_n31 at h
    refine lv_iload hx hb dX8_mayLoad_31 (lv_at hl 4 rfl) ?_
    refine lv_iload_n hx hb dX8_mayLoad_33 rfl (lv_at hl 3 rfl) ?_
    refine lv_icmp_ge (tgt := 77) hx hb dX8_mayLoad_34 (by decide) (fun c1 => ?_) (fun c1 => ?_)
    · have h := ite_t c1 h
      exact n77 _ _ _ (lv_sub hl [] rfl) hG h
    · have h := ite_f c1 h
      refine lv_iload_n hx hb dX8_mayLoad_37 rfl (lv_at hl 2 rfl) ?_
      refine lv_iconst (v := (2 : Int32)) hx hb dX8_mayLoad_38 (by decide) ?_
      refine lv_iload hx hb dX8_mayLoad_39 (lv_at hl 4 rfl) ?_
      refine lv_imul hx hb dX8_mayLoad_41 ?_
      refine lv_iadd hx hb dX8_mayLoad_42 ?_
      refine lv_istore (lv' := [(5, .int (x2 + ((2 : Int32) * x4))), (0, .ref (g.2.1 0)), (1, .ref (g.2.1 6)), (2, .int x2), (3, .int x3), (4, .int x4)]) hx hb dX8_mayLoad_43 hl (Nat.le_of_ble_eq_true rfl) rfl (fun ls hl => ?_)
      refine lv_aload_n hx hb dX8_mayLoad_45 rfl (lv_at hl 1 rfl) ?_
      refine gx_get (v := .ref (g.2.1 10)) (C := RX8) (T := TX8) (N := 13) hx hb hts mc_X8 hown hK hG (ga_0 g _) rfl 1 (by decide) hw0 rfl rfl dX8_mayLoad_46 ?_
      refine lv_aload_n hx hb dX8_mayLoad_49 rfl (lv_at hl 2 rfl) ?_
      refine lv_iload hx hb dX8_mayLoad_50 (lv_at hl 0 rfl) ?_
      obtain ⟨z2, hc3, h⟩ := bnd_some h
      refine gx_cV (σ' := σ) (r := (some (.int z2))) (rest := [.ref (g.2.1 10)]) (As := [.int (x2 + ((2 : Int32) * x4))]) hS9 (c_Sh_read_6 l g σ (x2 + ((2 : Int32) * x4)) z2 hc3) rfl (cwV 1 hts (gz_V mw_2_155 mw_2_156 mw_2_157 mw_1_2 mw_2_158) rfl rfl rfl hdV_X5_read ⟨Nat.le_of_ble_eq_true rfl, Nat.le_of_ble_eq_true rfl⟩) hK hG (ga_6 g _) rfl rfl rfl hl.1 rfl (Nat.le_of_ble_eq_true rfl) dX8_mayLoad_52 (fun H locs hG => ?_)
      refine W.eq (g2 := F0 m 55 ls [.int z2, .ref (g.2.1 10)]) rfl ?_
      refine lv_aload_n hx hb dX8_mayLoad_55 rfl (lv_at hl 2 rfl) ?_
      refine lv_iload hx hb dX8_mayLoad_56 (lv_at hl 0 rfl) ?_
      refine lv_iconst (v := (1 : Int32)) hx hb dX8_mayLoad_58 (by decide) ?_
      refine lv_iadd hx hb dX8_mayLoad_59 ?_
      obtain ⟨z4, hc5, h⟩ := bnd_some h
      refine gx_cV (σ' := σ) (r := (some (.int z4))) (rest := [.int z2, .ref (g.2.1 10)]) (As := [.int ((x2 + ((2 : Int32) * x4)) + (1 : Int32))]) hS9 (c_Sh_read_6 l g σ ((x2 + ((2 : Int32) * x4)) + (1 : Int32)) z4 hc5) rfl (cwV 1 hts (gz_V mw_2_155 mw_2_156 mw_2_157 mw_1_2 mw_2_158) rfl rfl rfl hdV_X5_read ⟨Nat.le_of_ble_eq_true rfl, Nat.le_of_ble_eq_true rfl⟩) hK hG (ga_6 g _) rfl rfl rfl hl.1 rfl (Nat.le_of_ble_eq_true rfl) dX8_mayLoad_60 (fun H locs hG => ?_)
      refine W.eq (g2 := F0 m 63 ls [.int z4, .int z2, .ref (g.2.1 10)]) rfl ?_
      obtain ⟨z6, hc7, h⟩ := bnd_some h
      refine gx_cV (σ' := σ) (r := (some (.int z6))) (rest := []) (As := [.int z2, .int z4]) hS9 (c_Net_mayJoin_10 l g σ z2 z4 z6 hc7) rfl (cwV 2 hts (gz_V mw_2_122 mw_2_123 mw_2_124 mw_1_3 mw_2_125) rfl rfl rfl hdV_X2_mayJoin ⟨Nat.le_of_ble_eq_true rfl, Nat.le_of_ble_eq_true rfl⟩) hK hG (ga_10 g _) rfl rfl rfl hl.1 rfl (Nat.le_of_ble_eq_true rfl) dX8_mayLoad_63 (fun H locs hG => ?_)
      refine W.eq (g2 := F0 m 66 ls [.int z6]) rfl ?_
      refine lv_if_ne (tgt := 71) hx hb dX8_mayLoad_66 (by decide) (fun c8 => ?_) (fun c8 => ?_)
      · have h := ite_f c8 h
        refine lv_iinc (v := (x4 + (1 : Int32))) (lv' := [(4, .int (x4 + (1 : Int32))), (5, .int (x2 + ((2 : Int32) * x4))), (0, .ref (g.2.1 0)), (1, .ref (g.2.1 6)), (2, .int x2), (3, .int x3)]) hx hb dX8_mayLoad_71 hl (k := 5) rfl (congrArg (fun z => x4 + z) (by decide)) (Nat.le_of_ble_eq_true rfl) rfl (fun ls hl => ?_)
        refine lv_goto (tgt := 31) hx hb dX8_mayLoad_74 (by decide) ?_
        exact hk31 x2 x3 (x4 + (1 : Int32)) _ _ _ (lv_sub hl [2, 3, 4, 5, 0] rfl) hG h
      · have h := ite_t c8 h
        exact n69 _ _ _ (lv_sub hl [] rfl) hG h
  have l31 : ∀  (F : Nat) (x2 : Int32) (x3 : Int32) (x4 : Int32) (H : Heap) (locs : List Loc) (ls : Array Slot), lv_has ls 6 [(0, .ref (g.2.1 0)), (1, .ref (g.2.1 6)), (2, .int x2), (3, .int x3), (4, .int x4)] → GW g s σ H locs → LN_mayLoad_l31 (σ.1 641) (σ.1 387) (σ.2.2.1 7) F x2 x3 x4 = some r → Wg p l e 2 43 s m args below meth c g (some (.int r)) σ H locs (F0 m 31 ls []) := by
    intro F
    induction F with
    | zero => intro x2 x3 x4 H locs ls hl hG h; exact no_some h
    | succ F ih => intro x2 x3 x4 H locs ls hl hG h; exact n31 (fun x2 x3 x4 => LN_mayLoad_l31 (σ.1 641) (σ.1 387) (σ.2.2.1 7) F x2 x3 x4) ih x2 x3 x4 H locs ls hl hG h
  refine lv_iload_n hx hb dX8_mayLoad_0 rfl (lv_at hl 2 rfl) ?_
  refine lv_if_lt (tgt := 26) hx hb dX8_mayLoad_1 (by decide) (fun c9 => ?_) (fun c9 => ?_)
  · have h := ite_t c9 h
    exact n26 _ _ _ (lv_sub hl [] rfl) hG h
  · have h := ite_f c9 h
    refine lv_iload_n hx hb dX8_mayLoad_4 rfl (lv_at hl 3 rfl) ?_
    refine lv_if_lt (tgt := 26) hx hb dX8_mayLoad_5 (by decide) (fun c10 => ?_) (fun c10 => ?_)
    · have h := ite_t c10 h
      exact n26 _ _ _ (lv_sub hl [] rfl) hG h
    · have h := ite_f c10 h
      refine lv_iload_n hx hb dX8_mayLoad_8 rfl (lv_at hl 2 rfl) ?_
      refine lv_i2l hx hb dX8_mayLoad_9 rfl ?_
      refine lv_ldc2 hx hb hown hw1 dX8_mayLoad_10 ?_
      refine lv_iload_n hx hb dX8_mayLoad_13 rfl (lv_at hl 3 rfl) ?_
      refine lv_i2l hx hb dX8_mayLoad_14 rfl ?_
      refine lv_lmul hx hb dX8_mayLoad_15 ?_
      refine lv_ladd hx hb dX8_mayLoad_16 ?_
      refine lv_aload_n hx hb dX8_mayLoad_17 rfl (lv_at hl 1 rfl) ?_
      refine gx_get (v := .int (σ.1 387)) (C := RX5) (T := TX5) (N := 4) hx hb hts mc_X5 hown hK hG (ga_6 g _) rfl 3 (by decide) hw2 rfl rfl dX8_mayLoad_18 ?_
      refine lv_i2l hx hb dX8_mayLoad_21 rfl ?_
      refine W.lcmp hx hb dX8_mayLoad_22 ?_
      refine lv_if_le (tgt := 28) hx hb dX8_mayLoad_23 (by decide) (fun c11 => ?_) (fun c11 => ?_)
      · have h := ite_t c11 h
        refine lv_iconst (v := (0 : Int32)) hx hb dX8_mayLoad_28 (by decide) ?_
        refine lv_istore (lv' := [(4, .int (0 : Int32)), (0, .ref (g.2.1 0)), (1, .ref (g.2.1 6)), (2, .int x2), (3, .int x3)]) hx hb dX8_mayLoad_29 hl (Nat.le_of_ble_eq_true rfl) rfl (fun ls hl => ?_)
        exact l31 FUEL x2 x3 (0 : Int32) _ _ _ (lv_sub hl [1, 2, 3, 4, 0] rfl) hG h
      · have h := ite_f c11 h
        exact n26 _ _ _ (lv_sub hl [] rfl) hG h

set_option maxHeartbeats 4000000 in
set_option maxRecDepth 100000 in
theorem c_LN_load_s2 (l : Launch) (g : GC) (σ : St) (x2 : Int32) (x3 : Int32) (r : Int32) (w_likeness_ready : Int32) (w_pairs_ready : Int32) (w_search_reach : Int32) (w_ways_ready : Int32) (w_now_near : Nat → Int32) (h : LN_load_s2 x2 x3 (σ.1 1539) (σ.1 641) (σ.1 2632) (σ.1 2372) (σ.1 387) (σ.1 385) (σ.1 1283) (σ.2.2.1 11) (σ.2.2.1 7) = some (r, w_likeness_ready, w_pairs_ready, w_search_reach, w_ways_ready, w_now_near)) : Cn l g yX8_load (Cond.code yX8_load cX8_load 7 (some .int) :: wG) 3 68 [.ref (g.2.1 0), .int (2 : Int32), .int x2, .int x3] σ (some (.int r)) (mkS σ [(1539, w_likeness_ready), (2632, w_pairs_ready), (2372, w_search_reach), (1283, w_ways_ready)] [] [(11, w_now_near)] []) := by
  unfold Cn
  refine Met.ofW (cc := cX8_load) (maxL := 7) (ret := (some .int)) (by decide) rfl ?_
  intro p e s m args below meth c s₁ B hml hv
  obtain ⟨hargs, hP0, hK⟩ := hv
  have hx := B.exec
  have hb := B.bytes
  have hr := B.returns
  have hts : ∀ w ∈ wG, w.before args s = true := fun w h => atoms_spec (ws := (Cond.code yX8_load cX8_load 7 (some .int) :: wG)) B.pre w (List.mem_cons_of_mem _ h)
  have hown : s.vm.findClass RX8 = some m.cls := findClass_of_methodNamed B.named
  have hlocks := B.notSynchronized
  have hS9 : CallFix p m c cX8_load 7 s args wG RX8 := ⟨hx, hb, hml, hown, hts⟩
  have hw0 := hts _ mw_2_38
  have hw1 := hts _ mw_2_37
  have hw2 := hts _ mw_1_33
  have hf9 : entryFrame m args 7 = _ := (congrArg (fun a => entryFrame m a 7) hargs).trans (lg_entry_eq m [.ref (g.2.1 0), .int (2 : Int32), .int x2, .int x3] 7)
  show Wg p l e 3 68 s m args below meth c g (some (.int r)) (mkS σ [(1539, w_likeness_ready), (2632, w_pairs_ready), (2372, w_search_reach), (1283, w_ways_ready)] [] [(11, w_now_near)] []) s.heap [] (entryFrame m args 7)
  rw [hf9]
  have hl := lv_entry ([.ref (g.2.1 0), .int (2 : Int32), .int x2, .int x3]) (n := 7) (Nat.le_of_ble_eq_true rfl)
  generalize (lg_sl ([.ref (g.2.1 0), .int (2 : Int32), .int x2, .int x3]) ++ List.replicate (7 - (lg_sl ([.ref (g.2.1 0), .int (2 : Int32), .int x2, .int x3])).length) Slot.unset).toArray = ls at hl ⊢
  have hl : lv_has ls 7 [(0, .ref (g.2.1 0)), (1, .int (2 : Int32)), (2, .int x2), (3, .int x3)] := hl
  have hG : GW g s σ s.heap [] := ⟨hP0, va_S.rf⟩
  have hG : GW g s (mkS σ [(1539, (σ.1 1539)), (2632, (σ.1 2632)), (2372, (σ.1 2372)), (1283, (σ.1 1283))] [] [(11, (σ.2.2.1 11))] []) s.heap [] := GW_self [1539, 2632, 2372, 1283] [] [11] [] hG
  unfold LN_load_s2 at h
  have n104 : ∀ (x4 : Int32) (v_likeness_ready : Int32) (v_pairs_ready : Int32) (v_search_reach : Int32) (v_ways_ready : Int32) (v_now_near : Nat → Int32) (H : Heap) (locs : List Loc) (ls : Array Slot), lv_has ls 7 [(0, .ref (g.2.1 0)), (4, .int x4)] → GW g s (mkS σ [(1539, v_likeness_ready), (2632, v_pairs_ready), (2372, v_search_reach), (1283, v_ways_ready)] [] [(11, v_now_near)] []) H locs → LN_load_s2_n104 (σ.1 641) x4 v_likeness_ready v_pairs_ready v_search_reach v_ways_ready v_now_near = some (r, w_likeness_ready, w_pairs_ready, w_search_reach, w_ways_ready, w_now_near) → Wg p l e 3 68 s m args below meth c g (some (.int r)) (mkS σ [(1539, w_likeness_ready), (2632, w_pairs_ready), (2372, w_search_reach), (1283, w_ways_ready)] [] [(11, w_now_near)] []) H locs (F0 m 104 ls []) := by
    intro x4 v_likeness_ready v_pairs_ready v_search_reach v_ways_ready v_now_near H locs ls hl hG h
    unfold LN_load_s2_n104 at h
    refine lv_aload_n hx hb dX8_load_104 rfl (lv_at hl 0 rfl) ?_
    obtain ⟨z1, hc2, h⟩ := bnd_some h
    refine gx_cV (σ' := (mkS σ [(1539, z1.1), (2632, z1.2.1), (2372, z1.2.2.1), (1283, z1.2.2.2)] [] [(11, v_now_near)] [])) (r := none) (rest := []) (As := []) hS9 (c_LN_forget l g (mkS σ [(1539, v_likeness_ready), (2632, v_pairs_ready), (2372, v_search_reach), (1283, v_ways_ready)] [] [(11, v_now_near)] []) z1.1 z1.2.1 z1.2.2.1 z1.2.2.2 hc2) (mk_mk rfl rfl rfl rfl) (cwV 0 hts (gz_V mw_2_114 mw_2_116 ms_1_0 mw_1_1 mw_2_117) rfl rfl rfl hdV_X8_forget ⟨Nat.le_of_ble_eq_true rfl, Nat.le_of_ble_eq_true rfl⟩) hK hG (ga_0 g _) rfl rfl rfl hl.1 rfl (Nat.le_of_ble_eq_true rfl) dX8_load_105 (fun H locs hG => ?_)
    refine W.eq (g2 := F0 m 108 ls []) rfl ?_
    refine lv_aload_n hx hb dX8_load_108 rfl (lv_at hl 0 rfl) ?_
    refine gx_get (v := .ref (g.2.1 10)) (C := RX8) (T := TX8) (N := 13) hx hb hts mc_X8 hown hK hG (ga_0 g _) rfl 1 (by decide) hw0 rfl rfl dX8_load_109 ?_
    obtain ⟨z3, hc4, h⟩ := bnd_some h
    refine gx_cV (σ' := (mkS σ [(1539, z1.1), (2632, z1.2.1), (2372, z1.2.2.1), (1283, z1.2.2.2)] [] [(11, v_now_near)] [])) (r := (some (.int z3))) (rest := []) (As := []) hS9 (c_Net_roads_10 l g (mkS σ [(1539, z1.1), (2632, z1.2.1), (2372, z1.2.2.1), (1283, z1.2.2.2)] [] [(11, v_now_near)] []) z3 hc4) rfl (cwV 0 hts (gz_V mw_2_160 mw_2_161 mw_2_162 mw_1_3 mw_2_163) rfl rfl rfl hdV_X2_roads ⟨Nat.le_of_ble_eq_true rfl, Nat.le_of_ble_eq_true rfl⟩) hK hG (ga_10 g _) rfl rfl rfl hl.1 rfl (Nat.le_of_ble_eq_true rfl) dX8_load_112 (fun H locs hG => ?_)
    refine W.eq (g2 := F0 m 115 ls [.int z3]) rfl ?_
    refine lv_iload hx hb dX8_load_115 (lv_at hl 1 rfl) ?_
    refine lv_isub hx hb dX8_load_117 ?_
    cases h
    exact gx_iret hx hb hr hlocks hG dX8_load_118
  have n53 : ∀ (k53 : Int32 → Int32 → Int32 → Int32 → Int32 → Int32 → Int32 → Int32 → (Nat → Int32) → Option (Int32 × Int32 × Int32 × Int32 × Int32 × (Nat → Int32))) (hk53 : ∀ (x2 : Int32) (x3 : Int32) (x4 : Int32) (x5 : Int32) (v_likeness_ready : Int32) (v_pairs_ready : Int32) (v_search_reach : Int32) (v_ways_ready : Int32) (v_now_near : Nat → Int32) (H : Heap) (locs : List Loc) (ls : Array Slot), lv_has ls 7 [(0, .ref (g.2.1 0)), (1, .int (2 : Int32)), (2, .int x2), (3, .int x3), (4, .int x4), (5, .int x5)] → GW g s (mkS σ [(1539, v_likeness_ready), (2632, v_pairs_ready), (2372, v_search_reach), (1283, v_ways_ready)] [] [(11, v_now_near)] []) H locs → k53 x2 x3 x4 x5 v_likeness_ready v_pairs_ready v_search_reach v_ways_ready v_now_near = some (r, w_likeness_ready, w_pairs_ready, w_search_reach, w_ways_ready, w_now_near) → Wg p l e 3 68 s m args below meth c g (some (.int r)) (mkS σ [(1539, w_likeness_ready), (2632, w_pairs_ready), (2372, w_search_reach), (1283, w_ways_ready)] [] [(11, w_now_near)] []) H locs (F0 m 53 ls [])) (x2 : Int32) (x3 : Int32) (x4 : Int32) (x5 : Int32) (v_likeness_ready : Int32) (v_pairs_ready : Int32) (v_search_reach : Int32) (v_ways_ready : Int32) (v_now_near : Nat → Int32) (H : Heap) (locs : List Loc) (ls : Array Slot), lv_has ls 7 [(0, .ref (g.2.1 0)), (1, .int (2 : Int32)), (2, .int x2), (3, .int x3), (4, .int x4), (5, .int x5)] → GW g s (mkS σ [(1539, v_likeness_ready), (2632, v_pairs_ready), (2372, v_search_reach), (1283, v_ways_ready)] [] [(11, v_now_near)] []) H locs → LN_load_s2_n53 k53 (σ.1 641) (σ.1 387) (σ.2.2.1 7) x2 x3 x4 x5 v_likeness_ready v_pairs_ready v_search_reach v_ways_ready v_now_near = some (r, w_likeness_ready, w_pairs_ready, w_search_reach, w_ways_ready, w_now_near) → Wg p l e 3 68 s m args below meth c g (some (.int r)) (mkS σ [(1539, w_likeness_ready), (2632, w_pairs_ready), (2372, w_search_reach), (1283, w_ways_ready)] [] [(11, w_now_near)] []) H locs (F0 m 53 ls []) := by
    intro k53 hk53 x2 x3 x4 x5 v_likeness_ready v_pairs_ready v_search_reach v_ways_ready v_now_near H locs ls hl hG h
    unfold LN_load_s2_n53 at h
    refine lv_iload hx hb dX8_load_53 (lv_at hl 5 rfl) ?_
    refine lv_iload_n hx hb dX8_load_55 rfl (lv_at hl 3 rfl) ?_
    refine lv_icmp_ge (tgt := 104) hx hb dX8_load_56 (by decide) (fun c5 => ?_) (fun c5 => ?_)
    · have h := ite_t c5 h
      exact n104 x4 v_likeness_ready v_pairs_ready v_search_reach v_ways_ready v_now_near _ _ _ (lv_sub hl [0, 4] rfl) hG h
    · have h := ite_f c5 h
      refine lv_iload_n hx hb dX8_load_59 rfl (lv_at hl 2 rfl) ?_
      refine lv_iconst (v := (2 : Int32)) hx hb dX8_load_60 (by decide) ?_
      refine lv_iload hx hb dX8_load_61 (lv_at hl 5 rfl) ?_
      refine lv_imul hx hb dX8_load_63 ?_
      refine lv_iadd hx hb dX8_load_64 ?_
      refine lv_istore (lv' := [(6, .int (x2 + ((2 : Int32) * x5))), (0, .ref (g.2.1 0)), (1, .int (2 : Int32)), (2, .int x2), (3, .int x3), (4, .int x4), (5, .int x5)]) hx hb dX8_load_65 hl (Nat.le_of_ble_eq_true rfl) rfl (fun ls hl => ?_)
      refine lv_aload_n hx hb dX8_load_67 rfl (lv_at hl 1 rfl) ?_
      refine gx_get (v := .ref (g.2.1 10)) (C := RX8) (T := TX8) (N := 13) hx hb hts mc_X8 hown hK hG (ga_0 g _) rfl 1 (by decide) hw0 rfl rfl dX8_load_68 ?_
      refine lv_aload_n hx hb dX8_load_71 rfl (lv_at hl 1 rfl) ?_
      refine gx_get (v := .ref (g.2.1 1)) (C := RX8) (T := TX8) (N := 13) hx hb hts mc_X8 hown hK hG (ga_0 g _) rfl 0 (by decide) hw1 rfl rfl dX8_load_72 ?_
      refine lv_iload_n hx hb dX8_load_75 rfl (lv_at hl 2 rfl) ?_
      refine gx_aald (v := .ref (g.2.1 6)) hx hb hK hG (ga_1 g _) (by decide) rfl dX8_load_76 ?_
      refine lv_iload hx hb dX8_load_77 (lv_at hl 0 rfl) ?_
      obtain ⟨z6, hc7, h⟩ := bnd_some h
      refine gx_cV (σ' := (mkS σ [(1539, v_likeness_ready), (2632, v_pairs_ready), (2372, v_search_reach), (1283, v_ways_ready)] [] [(11, v_now_near)] [])) (r := (some (.int z6))) (rest := [.ref (g.2.1 10)]) (As := [.int (x2 + ((2 : Int32) * x5))]) hS9 (c_Sh_read_6 l g (mkS σ [(1539, v_likeness_ready), (2632, v_pairs_ready), (2372, v_search_reach), (1283, v_ways_ready)] [] [(11, v_now_near)] []) (x2 + ((2 : Int32) * x5)) z6 hc7) rfl (cwV 1 hts (gz_V mw_2_155 mw_2_156 mw_2_157 mw_1_2 mw_2_158) rfl rfl rfl hdV_X5_read ⟨Nat.le_of_ble_eq_true rfl, Nat.le_of_ble_eq_true rfl⟩) hK hG (ga_6 g _) rfl rfl rfl hl.1 rfl (Nat.le_of_ble_eq_true rfl) dX8_load_79 (fun H locs hG => ?_)
      refine W.eq (g2 := F0 m 82 ls [.int z6, .ref (g.2.1 10)]) rfl ?_
      refine lv_aload_n hx hb dX8_load_82 rfl (lv_at hl 1 rfl) ?_
      refine gx_get (v := .ref (g.2.1 1)) (C := RX8) (T := TX8) (N := 13) hx hb hts mc_X8 hown hK hG (ga_0 g _) rfl 0 (by decide) hw1 rfl rfl dX8_load_83 ?_
      refine lv_iload_n hx hb dX8_load_86 rfl (lv_at hl 2 rfl) ?_
      refine gx_aald (v := .ref (g.2.1 6)) hx hb hK hG (ga_1 g _) (by decide) rfl dX8_load_87 ?_
      refine lv_iload hx hb dX8_load_88 (lv_at hl 0 rfl) ?_
      refine lv_iconst (v := (1 : Int32)) hx hb dX8_load_90 (by decide) ?_
      refine lv_iadd hx hb dX8_load_91 ?_
      obtain ⟨z8, hc9, h⟩ := bnd_some h
      refine gx_cV (σ' := (mkS σ [(1539, v_likeness_ready), (2632, v_pairs_ready), (2372, v_search_reach), (1283, v_ways_ready)] [] [(11, v_now_near)] [])) (r := (some (.int z8))) (rest := [.int z6, .ref (g.2.1 10)]) (As := [.int ((x2 + ((2 : Int32) * x5)) + (1 : Int32))]) hS9 (c_Sh_read_6 l g (mkS σ [(1539, v_likeness_ready), (2632, v_pairs_ready), (2372, v_search_reach), (1283, v_ways_ready)] [] [(11, v_now_near)] []) ((x2 + ((2 : Int32) * x5)) + (1 : Int32)) z8 hc9) rfl (cwV 1 hts (gz_V mw_2_155 mw_2_156 mw_2_157 mw_1_2 mw_2_158) rfl rfl rfl hdV_X5_read ⟨Nat.le_of_ble_eq_true rfl, Nat.le_of_ble_eq_true rfl⟩) hK hG (ga_6 g _) rfl rfl rfl hl.1 rfl (Nat.le_of_ble_eq_true rfl) dX8_load_92 (fun H locs hG => ?_)
      refine W.eq (g2 := F0 m 95 ls [.int z8, .int z6, .ref (g.2.1 10)]) rfl ?_
      obtain ⟨z10, hc11, h⟩ := bnd_some h
      refine gx_cV (σ' := (mkS σ [(1539, v_likeness_ready), (2632, v_pairs_ready), (2372, v_search_reach), (1283, v_ways_ready)] [] [(11, z10)] [])) (r := none) (rest := []) (As := [.int z6, .int z8]) hS9 (c_Net_join_10 l g (mkS σ [(1539, v_likeness_ready), (2632, v_pairs_ready), (2372, v_search_reach), (1283, v_ways_ready)] [] [(11, v_now_near)] []) z6 z8 z10 hc11) (mk_mk rfl rfl rfl rfl) (cwV 2 hts (gz_V mw_2_137 mw_2_138 mw_2_139 mw_1_3 mw_2_140) rfl rfl rfl hdV_X2_join ⟨Nat.le_of_ble_eq_true rfl, Nat.le_of_ble_eq_true rfl⟩) hK hG (ga_10 g _) rfl rfl rfl hl.1 rfl (Nat.le_of_ble_eq_true rfl) dX8_load_95 (fun H locs hG => ?_)
      refine W.eq (g2 := F0 m 98 ls []) rfl ?_
      refine lv_iinc (v := (x5 + (1 : Int32))) (lv' := [(5, .int (x5 + (1 : Int32))), (6, .int (x2 + ((2 : Int32) * x5))), (0, .ref (g.2.1 0)), (1, .int (2 : Int32)), (2, .int x2), (3, .int x3), (4, .int x4)]) hx hb dX8_load_98 hl (k := 6) rfl (congrArg (fun z => x5 + z) (by decide)) (Nat.le_of_ble_eq_true rfl) rfl (fun ls hl => ?_)
      refine lv_goto (tgt := 53) hx hb dX8_load_101 (by decide) ?_
      exact hk53 x2 x3 x4 (x5 + (1 : Int32)) v_likeness_ready v_pairs_ready v_search_reach v_ways_ready z10 _ _ _ (lv_sub hl [2, 3, 4, 5, 6, 0] rfl) hG h
  have l53 : ∀  (F : Nat) (x2 : Int32) (x3 : Int32) (x4 : Int32) (x5 : Int32) (v_likeness_ready : Int32) (v_pairs_ready : Int32) (v_search_reach : Int32) (v_ways_ready : Int32) (v_now_near : Nat → Int32) (H : Heap) (locs : List Loc) (ls : Array Slot), lv_has ls 7 [(0, .ref (g.2.1 0)), (1, .int (2 : Int32)), (2, .int x2), (3, .int x3), (4, .int x4), (5, .int x5)] → GW g s (mkS σ [(1539, v_likeness_ready), (2632, v_pairs_ready), (2372, v_search_reach), (1283, v_ways_ready)] [] [(11, v_now_near)] []) H locs → LN_load_s2_l53 (σ.1 641) (σ.1 387) (σ.2.2.1 7) F x2 x3 x4 x5 v_likeness_ready v_pairs_ready v_search_reach v_ways_ready v_now_near = some (r, w_likeness_ready, w_pairs_ready, w_search_reach, w_ways_ready, w_now_near) → Wg p l e 3 68 s m args below meth c g (some (.int r)) (mkS σ [(1539, w_likeness_ready), (2632, w_pairs_ready), (2372, w_search_reach), (1283, w_ways_ready)] [] [(11, w_now_near)] []) H locs (F0 m 53 ls []) := by
    intro F
    induction F with
    | zero => intro x2 x3 x4 x5 v_likeness_ready v_pairs_ready v_search_reach v_ways_ready v_now_near H locs ls hl hG h; exact no_some h
    | succ F ih => intro x2 x3 x4 x5 v_likeness_ready v_pairs_ready v_search_reach v_ways_ready v_now_near H locs ls hl hG h; exact n53 (fun x2 x3 x4 x5 v_likeness_ready v_pairs_ready v_search_reach v_ways_ready v_now_near => LN_load_s2_l53 (σ.1 641) (σ.1 387) (σ.2.2.1 7) F x2 x3 x4 x5 v_likeness_ready v_pairs_ready v_search_reach v_ways_ready v_now_near) ih x2 x3 x4 x5 v_likeness_ready v_pairs_ready v_search_reach v_ways_ready v_now_near H locs ls hl hG h
  refine lv_iload_n hx hb dX8_load_0 rfl (lv_at hl 1 rfl) ?_
  obtain ⟨z12, hc13, h⟩ := bnd_some h
  refine gx_cS (σ' := (mkS σ [(1539, (σ.1 1539)), (2632, (σ.1 2632)), (2372, (σ.1 2372)), (1283, (σ.1 1283))] [] [(11, (σ.2.2.1 11))] [])) (r := (some (.int z12))) (rest := []) (As := [.int (2 : Int32)]) hS9 (c_LN_isSheet l g (mkS σ [(1539, (σ.1 1539)), (2632, (σ.1 2632)), (2372, (σ.1 2372)), (1283, (σ.1 1283))] [] [(11, (σ.2.2.1 11))] []) (2 : Int32) z12 hc13) rfl (va_cwS 1 hts (gz_S mw_2_81 mw_2_82 mw_1_1 mw_2_83) rfl rfl rfl hdS_X8_isSheet ⟨Nat.le_of_ble_eq_true rfl, Nat.le_of_ble_eq_true rfl⟩) hK hG rfl hl.1 rfl (Nat.le_of_ble_eq_true rfl) dX8_load_1 (fun H locs hG => ?_)
  refine W.eq (g2 := F0 m 4 ls [.int z12]) rfl ?_
  refine lv_if_ne (tgt := 9) hx hb dX8_load_4 (by decide) (fun c14 => ?_) (fun c14 => ?_)
  · have h := ite_f c14 h
    refine lv_aload_n hx hb dX8_load_9 rfl (lv_at hl 0 rfl) ?_
    refine gx_get (v := .ref (g.2.1 1)) (C := RX8) (T := TX8) (N := 13) hx hb hts mc_X8 hown hK hG (ga_0 g _) rfl 0 (by decide) hw1 rfl rfl dX8_load_10 ?_
    refine lv_iload_n hx hb dX8_load_13 rfl (lv_at hl 1 rfl) ?_
    refine gx_aald (v := .ref (g.2.1 6)) hx hb hK hG (ga_1 g _) (by decide) rfl dX8_load_14 ?_
    refine gx_get (v := .int (σ.1 385)) (C := RX5) (T := TX5) (N := 4) hx hb hts mc_X5 hown hK hG (ga_6 g _) rfl 1 (by decide) hw2 rfl rfl dX8_load_15 ?_
    refine lv_if_ne (tgt := 24) hx hb dX8_load_18 (by decide) (fun c15 => ?_) (fun c15 => ?_)
    · have h := ite_f c15 h
      refine lv_aload_n hx hb dX8_load_24 rfl (lv_at hl 0 rfl) ?_
      refine lv_aload_n hx hb dX8_load_25 rfl (lv_at hl 0 rfl) ?_
      refine gx_get (v := .ref (g.2.1 1)) (C := RX8) (T := TX8) (N := 13) hx hb hts mc_X8 hown hK hG (ga_0 g _) rfl 0 (by decide) hw1 rfl rfl dX8_load_26 ?_
      refine lv_iload_n hx hb dX8_load_29 rfl (lv_at hl 1 rfl) ?_
      refine gx_aald (v := .ref (g.2.1 6)) hx hb hK hG (ga_1 g _) (by decide) rfl dX8_load_30 ?_
      refine lv_iload_n hx hb dX8_load_31 rfl (lv_at hl 2 rfl) ?_
      refine lv_iload_n hx hb dX8_load_32 rfl (lv_at hl 3 rfl) ?_
      obtain ⟨z16, hc17, h⟩ := bnd_some h
      refine gx_cV (σ' := (mkS σ [(1539, (σ.1 1539)), (2632, (σ.1 2632)), (2372, (σ.1 2372)), (1283, (σ.1 1283))] [] [(11, (σ.2.2.1 11))] [])) (r := (some (.int z16))) (rest := []) (As := [.ref (g.2.1 6), .int x2, .int x3]) hS9 (c_LN_mayLoad_0_6 l g (mkS σ [(1539, (σ.1 1539)), (2632, (σ.1 2632)), (2372, (σ.1 2372)), (1283, (σ.1 1283))] [] [(11, (σ.2.2.1 11))] []) x2 x3 z16 hc17) rfl (cwV 3 hts (gz_V mw_2_150 mw_2_152 ms_1_1 mw_1_1 mw_2_153) rfl rfl rfl hdV_X8_mayLoad ⟨Nat.le_of_ble_eq_true rfl, Nat.le_of_ble_eq_true rfl⟩) hK hG (ga_0 g _) rfl rfl rfl hl.1 rfl (Nat.le_of_ble_eq_true rfl) dX8_load_33 (fun H locs hG => ?_)
      refine W.eq (g2 := F0 m 36 ls [.int z16]) rfl ?_
      refine lv_if_ne (tgt := 41) hx hb dX8_load_36 (by decide) (fun c18 => ?_) (fun c18 => ?_)
      · have h := ite_f c18 h
        refine lv_aload_n hx hb dX8_load_41 rfl (lv_at hl 0 rfl) ?_
        refine gx_get (v := .ref (g.2.1 10)) (C := RX8) (T := TX8) (N := 13) hx hb hts mc_X8 hown hK hG (ga_0 g _) rfl 1 (by decide) hw0 rfl rfl dX8_load_42 ?_
        obtain ⟨z19, hc20, h⟩ := bnd_some h
        refine gx_cV (σ' := (mkS σ [(1539, (σ.1 1539)), (2632, (σ.1 2632)), (2372, (σ.1 2372)), (1283, (σ.1 1283))] [] [(11, (σ.2.2.1 11))] [])) (r := (some (.int z19))) (rest := []) (As := []) hS9 (c_Net_roads_10 l g (mkS σ [(1539, (σ.1 1539)), (2632, (σ.1 2632)), (2372, (σ.1 2372)), (1283, (σ.1 1283))] [] [(11, (σ.2.2.1 11))] []) z19 hc20) rfl (cwV 0 hts (gz_V mw_2_160 mw_2_161 mw_2_162 mw_1_3 mw_2_163) rfl rfl rfl hdV_X2_roads ⟨Nat.le_of_ble_eq_true rfl, Nat.le_of_ble_eq_true rfl⟩) hK hG (ga_10 g _) rfl rfl rfl hl.1 rfl (Nat.le_of_ble_eq_true rfl) dX8_load_45 (fun H locs hG => ?_)
        refine W.eq (g2 := F0 m 48 ls [.int z19]) rfl ?_
        refine lv_istore (lv' := [(4, .int z19), (0, .ref (g.2.1 0)), (1, .int (2 : Int32)), (2, .int x2), (3, .int x3)]) hx hb dX8_load_48 hl (Nat.le_of_ble_eq_true rfl) rfl (fun ls hl => ?_)
        refine lv_iconst (v := (0 : Int32)) hx hb dX8_load_50 (by decide) ?_
        refine lv_istore (lv' := [(5, .int (0 : Int32)), (4, .int z19), (0, .ref (g.2.1 0)), (1, .int (2 : Int32)), (2, .int x2), (3, .int x3)]) hx hb dX8_load_51 hl (Nat.le_of_ble_eq_true rfl) rfl (fun ls hl => ?_)
        exact l53 FUEL x2 x3 z19 (0 : Int32) (σ.1 1539) (σ.1 2632) (σ.1 2372) (σ.1 1283) (σ.2.2.1 11) _ _ _ (lv_sub hl [2, 3, 4, 5, 1, 0] rfl) hG h
      · have h := ite_t c18 h
        refine lv_iconst (v := (-1 : Int32)) hx hb dX8_load_39 (by decide) ?_
        cases h
        exact gx_iret hx hb hr hlocks hG dX8_load_40
    · have h := ite_t c15 h
      refine lv_bipush (v := (-3 : Int32)) hx hb dX8_load_21 (by decide) ?_
      cases h
      exact gx_iret hx hb hr hlocks hG dX8_load_23
  · have h := ite_t c14 h
    refine lv_iconst (v := (-1 : Int32)) hx hb dX8_load_7 (by decide) ?_
    cases h
    exact gx_iret hx hb hr hlocks hG dX8_load_8

set_option maxHeartbeats 4000000 in
set_option maxRecDepth 100000 in
theorem c_Sh_read_8 (l : Launch) (g : GC) (σ : St) (x1 : Int32) (r : Int32) (h : Sh_read x1 (σ.1 515) (σ.2.2.1 9) = some r) : Cn l g yX5_read (Cond.code yX5_read cX5_read 2 (some .int) :: wG) 1 21 [.ref (g.2.1 8), .int x1] σ (some (.int r)) σ := by
  unfold Cn
  refine Met.ofW (cc := cX5_read) (maxL := 2) (ret := (some .int)) (by decide) rfl ?_
  intro p e s m args below meth c s₁ B hml hv
  obtain ⟨hargs, hP0, hK⟩ := hv
  have hx := B.exec
  have hb := B.bytes
  have hr := B.returns
  have hts : ∀ w ∈ wG, w.before args s = true := fun w h => atoms_spec (ws := (Cond.code yX5_read cX5_read 2 (some .int) :: wG)) B.pre w (List.mem_cons_of_mem _ h)
  have hown : s.vm.findClass RX5 = some m.cls := findClass_of_methodNamed B.named
  have hlocks := B.notSynchronized
  have hS9 : CallFix p m c cX5_read 2 s args wG RX5 := ⟨hx, hb, hml, hown, hts⟩
  have hw0 := hts _ mw_1_31
  have hf9 : entryFrame m args 2 = _ := (congrArg (fun a => entryFrame m a 2) hargs).trans (lg_entry_eq m [.ref (g.2.1 8), .int x1] 2)
  show Wg p l e 1 21 s m args below meth c g (some (.int r)) σ s.heap [] (entryFrame m args 2)
  rw [hf9]
  have hl := lv_entry ([.ref (g.2.1 8), .int x1]) (n := 2) (Nat.le_of_ble_eq_true rfl)
  generalize (lg_sl ([.ref (g.2.1 8), .int x1]) ++ List.replicate (2 - (lg_sl ([.ref (g.2.1 8), .int x1])).length) Slot.unset).toArray = ls at hl ⊢
  have hl : lv_has ls 2 [(0, .ref (g.2.1 8)), (1, .int x1)] := hl
  have hG : GW g s σ s.heap [] := ⟨hP0, va_S.rf⟩
  unfold Sh_read at h
  have n18 : ∀ (t0 : Int32) (H : Heap) (locs : List Loc) (ls : Array Slot), lv_has ls 2 [] → GW g s σ H locs → Sh_read_n18 t0 = some r → Wg p l e 1 21 s m args below meth c g (some (.int r)) σ H locs (F0 m 18 ls [.int t0]) := by
    intro t0 H locs ls hl hG h
    unfold Sh_read_n18 at h
    cases h
    exact gx_iret hx hb hr hlocks hG dX5_read_18
  refine lv_aload_n hx hb dX5_read_0 rfl (lv_at hl 0 rfl) ?_
  refine lv_iload_n hx hb dX5_read_1 rfl (lv_at hl 1 rfl) ?_
  obtain ⟨z1, hc2, h⟩ := bnd_some h
  refine gx_cV (σ' := σ) (r := (some (.int z1))) (rest := []) (As := [.int x1]) hS9 (c_Sh_has_8 l g σ x1 z1 hc2) rfl (cwV 1 hts (gz_V mw_2_159 mw_2_94 mw_2_95 mw_1_2 mw_2_96) rfl rfl rfl hdV_X5_has ⟨Nat.le_of_ble_eq_true rfl, Nat.le_of_ble_eq_true rfl⟩) hK hG (ga_8 g _) rfl rfl rfl hl.1 rfl (Nat.le_of_ble_eq_true rfl) dX5_read_2 (fun H locs hG => ?_)
  refine W.eq (g2 := F0 m 5 ls [.int z1]) rfl ?_
  refine lv_if_eq (tgt := 17) hx hb dX5_read_5 (by decide) (fun c3 => ?_) (fun c3 => ?_)
  · have h := ite_t c3 h
    refine lv_iconst (v := (-1 : Int32)) hx hb dX5_read_17 (by decide) ?_
    exact n18 (-1 : Int32) _ _ _ (lv_sub hl [] rfl) hG h
  · have h := ite_f c3 h
    refine lv_aload_n hx hb dX5_read_8 rfl (lv_at hl 0 rfl) ?_
    refine gx_get (v := .ref (g.2.1 9)) (C := RX5) (T := TX5) (N := 4) hx hb hts mc_X5 hown hK hG (ga_8 g _) rfl 0 (by decide) hw0 rfl rfl dX5_read_9 ?_
    refine lv_iload_n hx hb dX5_read_12 rfl (lv_at hl 1 rfl) ?_
    obtain ⟨hg4, h⟩ := gd_some h
    refine gx_iald (f := (σ.2.2.1 9)) hx hb hK hG (ga_9 g _) hg4 dX5_read_13 ?_
    refine lv_goto (tgt := 18) hx hb dX5_read_14 (by decide) ?_
    exact n18 ((σ.2.2.1 9) (x1.toNatClampNeg)) _ _ _ (lv_sub hl [] rfl) hG h

set_option maxHeartbeats 4000000 in
set_option maxRecDepth 100000 in
theorem c_LN_mayLoad_0_8 (l : Launch) (g : GC) (σ : St) (x2 : Int32) (x3 : Int32) (r : Int32) (h : LN_mayLoad x2 x3 (σ.1 641) (σ.1 515) (σ.2.2.1 9) = some r) : Cn l g yX8_mayLoad (Cond.code yX8_mayLoad cX8_mayLoad 6 (some .boolean) :: wG) 2 43 [.ref (g.2.1 0), .ref (g.2.1 8), .int x2, .int x3] σ (some (.int r)) σ := by
  unfold Cn
  refine Met.ofW (cc := cX8_mayLoad) (maxL := 6) (ret := (some .boolean)) (by decide) rfl ?_
  intro p e s m args below meth c s₁ B hml hv
  obtain ⟨hargs, hP0, hK⟩ := hv
  have hx := B.exec
  have hb := B.bytes
  have hr := B.returns
  have hts : ∀ w ∈ wG, w.before args s = true := fun w h => atoms_spec (ws := (Cond.code yX8_mayLoad cX8_mayLoad 6 (some .boolean) :: wG)) B.pre w (List.mem_cons_of_mem _ h)
  have hown : s.vm.findClass RX8 = some m.cls := findClass_of_methodNamed B.named
  have hlocks := B.notSynchronized
  have hS9 : CallFix p m c cX8_mayLoad 6 s args wG RX8 := ⟨hx, hb, hml, hown, hts⟩
  have hw0 := hts _ mw_2_38
  have hw1 := hts _ mw_2_154
  have hw2 := hts _ mw_1_36
  have hf9 : entryFrame m args 6 = _ := (congrArg (fun a => entryFrame m a 6) hargs).trans (lg_entry_eq m [.ref (g.2.1 0), .ref (g.2.1 8), .int x2, .int x3] 6)
  show Wg p l e 2 43 s m args below meth c g (some (.int r)) σ s.heap [] (entryFrame m args 6)
  rw [hf9]
  have hl := lv_entry ([.ref (g.2.1 0), .ref (g.2.1 8), .int x2, .int x3]) (n := 6) (Nat.le_of_ble_eq_true rfl)
  generalize (lg_sl ([.ref (g.2.1 0), .ref (g.2.1 8), .int x2, .int x3]) ++ List.replicate (6 - (lg_sl ([.ref (g.2.1 0), .ref (g.2.1 8), .int x2, .int x3])).length) Slot.unset).toArray = ls at hl ⊢
  have hl : lv_has ls 6 [(0, .ref (g.2.1 0)), (1, .ref (g.2.1 8)), (2, .int x2), (3, .int x3)] := hl
  have hG : GW g s σ s.heap [] := ⟨hP0, va_S.rf⟩
  unfold LN_mayLoad at h
  have n26 : ∀  (H : Heap) (locs : List Loc) (ls : Array Slot), lv_has ls 6 [] → GW g s σ H locs → LN_mayLoad_n26 = some r → Wg p l e 2 43 s m args below meth c g (some (.int r)) σ H locs (F0 m 26 ls []) := by
    intro H locs ls hl hG h
    unfold LN_mayLoad_n26 at h
    refine lv_iconst (v := (0 : Int32)) hx hb dX8_mayLoad_26 (by decide) ?_
    cases h
    exact gx_zret hx hb hr hlocks (by decide) hG dX8_mayLoad_27
  have n69 : ∀  (H : Heap) (locs : List Loc) (ls : Array Slot), lv_has ls 6 [] → GW g s σ H locs → LN_mayLoad_n69 = some r → Wg p l e 2 43 s m args below meth c g (some (.int r)) σ H locs (F0 m 69 ls []) := by
    intro H locs ls hl hG h
    unfold LN_mayLoad_n69 at h
    refine lv_iconst (v := (0 : Int32)) hx hb dX8_mayLoad_69 (by decide) ?_
    cases h
    exact gx_zret hx hb hr hlocks (by decide) hG dX8_mayLoad_70
  have n77 : ∀  (H : Heap) (locs : List Loc) (ls : Array Slot), lv_has ls 6 [] → GW g s σ H locs → LN_mayLoad_n77 = some r → Wg p l e 2 43 s m args below meth c g (some (.int r)) σ H locs (F0 m 77 ls []) := by
    intro H locs ls hl hG h
    unfold LN_mayLoad_n77 at h
    refine lv_iconst (v := (1 : Int32)) hx hb dX8_mayLoad_77 (by decide) ?_
    cases h
    exact gx_zret hx hb hr hlocks (by decide) hG dX8_mayLoad_78
  have n31 : ∀ (k31 : Int32 → Int32 → Int32 → Option (Int32)) (hk31 : ∀ (x2 : Int32) (x3 : Int32) (x4 : Int32) (H : Heap) (locs : List Loc) (ls : Array Slot), lv_has ls 6 [(0, .ref (g.2.1 0)), (1, .ref (g.2.1 8)), (2, .int x2), (3, .int x3), (4, .int x4)] → GW g s σ H locs → k31 x2 x3 x4 = some r → Wg p l e 2 43 s m args below meth c g (some (.int r)) σ H locs (F0 m 31 ls [])) (x2 : Int32) (x3 : Int32) (x4 : Int32) (H : Heap) (locs : List Loc) (ls : Array Slot), lv_has ls 6 [(0, .ref (g.2.1 0)), (1, .ref (g.2.1 8)), (2, .int x2), (3, .int x3), (4, .int x4)] → GW g s σ H locs → LN_mayLoad_n31 k31 (σ.1 641) (σ.1 515) (σ.2.2.1 9) x2 x3 x4 = some r → Wg p l e 2 43 s m args below meth c g (some (.int r)) σ H locs (F0 m 31 ls []) := by
    intro k31 hk31 x2 x3 x4 H locs ls hl hG h
    unfold LN_mayLoad_n31 at h
    refine lv_iload hx hb dX8_mayLoad_31 (lv_at hl 4 rfl) ?_
    refine lv_iload_n hx hb dX8_mayLoad_33 rfl (lv_at hl 3 rfl) ?_
    refine lv_icmp_ge (tgt := 77) hx hb dX8_mayLoad_34 (by decide) (fun c1 => ?_) (fun c1 => ?_)
    · have h := ite_t c1 h
      exact n77 _ _ _ (lv_sub hl [] rfl) hG h
    · have h := ite_f c1 h
      refine lv_iload_n hx hb dX8_mayLoad_37 rfl (lv_at hl 2 rfl) ?_
      refine lv_iconst (v := (2 : Int32)) hx hb dX8_mayLoad_38 (by decide) ?_
      refine lv_iload hx hb dX8_mayLoad_39 (lv_at hl 4 rfl) ?_
      refine lv_imul hx hb dX8_mayLoad_41 ?_
      refine lv_iadd hx hb dX8_mayLoad_42 ?_
      refine lv_istore (lv' := [(5, .int (x2 + ((2 : Int32) * x4))), (0, .ref (g.2.1 0)), (1, .ref (g.2.1 8)), (2, .int x2), (3, .int x3), (4, .int x4)]) hx hb dX8_mayLoad_43 hl (Nat.le_of_ble_eq_true rfl) rfl (fun ls hl => ?_)
      refine lv_aload_n hx hb dX8_mayLoad_45 rfl (lv_at hl 1 rfl) ?_
      refine gx_get (v := .ref (g.2.1 10)) (C := RX8) (T := TX8) (N := 13) hx hb hts mc_X8 hown hK hG (ga_0 g _) rfl 1 (by decide) hw0 rfl rfl dX8_mayLoad_46 ?_
      refine lv_aload_n hx hb dX8_mayLoad_49 rfl (lv_at hl 2 rfl) ?_
      refine lv_iload hx hb dX8_mayLoad_50 (lv_at hl 0 rfl) ?_
      obtain ⟨z2, hc3, h⟩ := bnd_some h
      refine gx_cV (σ' := σ) (r := (some (.int z2))) (rest := [.ref (g.2.1 10)]) (As := [.int (x2 + ((2 : Int32) * x4))]) hS9 (c_Sh_read_8 l g σ (x2 + ((2 : Int32) * x4)) z2 hc3) rfl (cwV 1 hts (gz_V mw_2_155 mw_2_156 mw_2_157 mw_1_2 mw_2_158) rfl rfl rfl hdV_X5_read ⟨Nat.le_of_ble_eq_true rfl, Nat.le_of_ble_eq_true rfl⟩) hK hG (ga_8 g _) rfl rfl rfl hl.1 rfl (Nat.le_of_ble_eq_true rfl) dX8_mayLoad_52 (fun H locs hG => ?_)
      refine W.eq (g2 := F0 m 55 ls [.int z2, .ref (g.2.1 10)]) rfl ?_
      refine lv_aload_n hx hb dX8_mayLoad_55 rfl (lv_at hl 2 rfl) ?_
      refine lv_iload hx hb dX8_mayLoad_56 (lv_at hl 0 rfl) ?_
      refine lv_iconst (v := (1 : Int32)) hx hb dX8_mayLoad_58 (by decide) ?_
      refine lv_iadd hx hb dX8_mayLoad_59 ?_
      obtain ⟨z4, hc5, h⟩ := bnd_some h
      refine gx_cV (σ' := σ) (r := (some (.int z4))) (rest := [.int z2, .ref (g.2.1 10)]) (As := [.int ((x2 + ((2 : Int32) * x4)) + (1 : Int32))]) hS9 (c_Sh_read_8 l g σ ((x2 + ((2 : Int32) * x4)) + (1 : Int32)) z4 hc5) rfl (cwV 1 hts (gz_V mw_2_155 mw_2_156 mw_2_157 mw_1_2 mw_2_158) rfl rfl rfl hdV_X5_read ⟨Nat.le_of_ble_eq_true rfl, Nat.le_of_ble_eq_true rfl⟩) hK hG (ga_8 g _) rfl rfl rfl hl.1 rfl (Nat.le_of_ble_eq_true rfl) dX8_mayLoad_60 (fun H locs hG => ?_)
      refine W.eq (g2 := F0 m 63 ls [.int z4, .int z2, .ref (g.2.1 10)]) rfl ?_
      obtain ⟨z6, hc7, h⟩ := bnd_some h
      refine gx_cV (σ' := σ) (r := (some (.int z6))) (rest := []) (As := [.int z2, .int z4]) hS9 (c_Net_mayJoin_10 l g σ z2 z4 z6 hc7) rfl (cwV 2 hts (gz_V mw_2_122 mw_2_123 mw_2_124 mw_1_3 mw_2_125) rfl rfl rfl hdV_X2_mayJoin ⟨Nat.le_of_ble_eq_true rfl, Nat.le_of_ble_eq_true rfl⟩) hK hG (ga_10 g _) rfl rfl rfl hl.1 rfl (Nat.le_of_ble_eq_true rfl) dX8_mayLoad_63 (fun H locs hG => ?_)
      refine W.eq (g2 := F0 m 66 ls [.int z6]) rfl ?_
      refine lv_if_ne (tgt := 71) hx hb dX8_mayLoad_66 (by decide) (fun c8 => ?_) (fun c8 => ?_)
      · have h := ite_f c8 h
        refine lv_iinc (v := (x4 + (1 : Int32))) (lv' := [(4, .int (x4 + (1 : Int32))), (5, .int (x2 + ((2 : Int32) * x4))), (0, .ref (g.2.1 0)), (1, .ref (g.2.1 8)), (2, .int x2), (3, .int x3)]) hx hb dX8_mayLoad_71 hl (k := 5) rfl (congrArg (fun z => x4 + z) (by decide)) (Nat.le_of_ble_eq_true rfl) rfl (fun ls hl => ?_)
        refine lv_goto (tgt := 31) hx hb dX8_mayLoad_74 (by decide) ?_
        exact hk31 x2 x3 (x4 + (1 : Int32)) _ _ _ (lv_sub hl [2, 3, 4, 5, 0] rfl) hG h
      · have h := ite_t c8 h
        exact n69 _ _ _ (lv_sub hl [] rfl) hG h
  have l31 : ∀  (F : Nat) (x2 : Int32) (x3 : Int32) (x4 : Int32) (H : Heap) (locs : List Loc) (ls : Array Slot), lv_has ls 6 [(0, .ref (g.2.1 0)), (1, .ref (g.2.1 8)), (2, .int x2), (3, .int x3), (4, .int x4)] → GW g s σ H locs → LN_mayLoad_l31 (σ.1 641) (σ.1 515) (σ.2.2.1 9) F x2 x3 x4 = some r → Wg p l e 2 43 s m args below meth c g (some (.int r)) σ H locs (F0 m 31 ls []) := by
    intro F
    induction F with
    | zero => intro x2 x3 x4 H locs ls hl hG h; exact no_some h
    | succ F ih => intro x2 x3 x4 H locs ls hl hG h; exact n31 (fun x2 x3 x4 => LN_mayLoad_l31 (σ.1 641) (σ.1 515) (σ.2.2.1 9) F x2 x3 x4) ih x2 x3 x4 H locs ls hl hG h
  refine lv_iload_n hx hb dX8_mayLoad_0 rfl (lv_at hl 2 rfl) ?_
  refine lv_if_lt (tgt := 26) hx hb dX8_mayLoad_1 (by decide) (fun c9 => ?_) (fun c9 => ?_)
  · have h := ite_t c9 h
    exact n26 _ _ _ (lv_sub hl [] rfl) hG h
  · have h := ite_f c9 h
    refine lv_iload_n hx hb dX8_mayLoad_4 rfl (lv_at hl 3 rfl) ?_
    refine lv_if_lt (tgt := 26) hx hb dX8_mayLoad_5 (by decide) (fun c10 => ?_) (fun c10 => ?_)
    · have h := ite_t c10 h
      exact n26 _ _ _ (lv_sub hl [] rfl) hG h
    · have h := ite_f c10 h
      refine lv_iload_n hx hb dX8_mayLoad_8 rfl (lv_at hl 2 rfl) ?_
      refine lv_i2l hx hb dX8_mayLoad_9 rfl ?_
      refine lv_ldc2 hx hb hown hw1 dX8_mayLoad_10 ?_
      refine lv_iload_n hx hb dX8_mayLoad_13 rfl (lv_at hl 3 rfl) ?_
      refine lv_i2l hx hb dX8_mayLoad_14 rfl ?_
      refine lv_lmul hx hb dX8_mayLoad_15 ?_
      refine lv_ladd hx hb dX8_mayLoad_16 ?_
      refine lv_aload_n hx hb dX8_mayLoad_17 rfl (lv_at hl 1 rfl) ?_
      refine gx_get (v := .int (σ.1 515)) (C := RX5) (T := TX5) (N := 4) hx hb hts mc_X5 hown hK hG (ga_8 g _) rfl 3 (by decide) hw2 rfl rfl dX8_mayLoad_18 ?_
      refine lv_i2l hx hb dX8_mayLoad_21 rfl ?_
      refine W.lcmp hx hb dX8_mayLoad_22 ?_
      refine lv_if_le (tgt := 28) hx hb dX8_mayLoad_23 (by decide) (fun c11 => ?_) (fun c11 => ?_)
      · have h := ite_t c11 h
        refine lv_iconst (v := (0 : Int32)) hx hb dX8_mayLoad_28 (by decide) ?_
        refine lv_istore (lv' := [(4, .int (0 : Int32)), (0, .ref (g.2.1 0)), (1, .ref (g.2.1 8)), (2, .int x2), (3, .int x3)]) hx hb dX8_mayLoad_29 hl (Nat.le_of_ble_eq_true rfl) rfl (fun ls hl => ?_)
        exact l31 FUEL x2 x3 (0 : Int32) _ _ _ (lv_sub hl [1, 2, 3, 4, 0] rfl) hG h
      · have h := ite_f c11 h
        exact n26 _ _ _ (lv_sub hl [] rfl) hG h

set_option maxHeartbeats 4000000 in
set_option maxRecDepth 100000 in
theorem c_LN_load_s3 (l : Launch) (g : GC) (σ : St) (x2 : Int32) (x3 : Int32) (r : Int32) (w_likeness_ready : Int32) (w_pairs_ready : Int32) (w_search_reach : Int32) (w_ways_ready : Int32) (w_now_near : Nat → Int32) (h : LN_load_s3 x2 x3 (σ.1 1539) (σ.1 641) (σ.1 2632) (σ.1 2372) (σ.1 515) (σ.1 513) (σ.1 1283) (σ.2.2.1 11) (σ.2.2.1 9) = some (r, w_likeness_ready, w_pairs_ready, w_search_reach, w_ways_ready, w_now_near)) : Cn l g yX8_load (Cond.code yX8_load cX8_load 7 (some .int) :: wG) 3 68 [.ref (g.2.1 0), .int (3 : Int32), .int x2, .int x3] σ (some (.int r)) (mkS σ [(1539, w_likeness_ready), (2632, w_pairs_ready), (2372, w_search_reach), (1283, w_ways_ready)] [] [(11, w_now_near)] []) := by
  unfold Cn
  refine Met.ofW (cc := cX8_load) (maxL := 7) (ret := (some .int)) (by decide) rfl ?_
  intro p e s m args below meth c s₁ B hml hv
  obtain ⟨hargs, hP0, hK⟩ := hv
  have hx := B.exec
  have hb := B.bytes
  have hr := B.returns
  have hts : ∀ w ∈ wG, w.before args s = true := fun w h => atoms_spec (ws := (Cond.code yX8_load cX8_load 7 (some .int) :: wG)) B.pre w (List.mem_cons_of_mem _ h)
  have hown : s.vm.findClass RX8 = some m.cls := findClass_of_methodNamed B.named
  have hlocks := B.notSynchronized
  have hS9 : CallFix p m c cX8_load 7 s args wG RX8 := ⟨hx, hb, hml, hown, hts⟩
  have hw0 := hts _ mw_2_38
  have hw1 := hts _ mw_2_37
  have hw2 := hts _ mw_1_33
  have hf9 : entryFrame m args 7 = _ := (congrArg (fun a => entryFrame m a 7) hargs).trans (lg_entry_eq m [.ref (g.2.1 0), .int (3 : Int32), .int x2, .int x3] 7)
  show Wg p l e 3 68 s m args below meth c g (some (.int r)) (mkS σ [(1539, w_likeness_ready), (2632, w_pairs_ready), (2372, w_search_reach), (1283, w_ways_ready)] [] [(11, w_now_near)] []) s.heap [] (entryFrame m args 7)
  rw [hf9]
  have hl := lv_entry ([.ref (g.2.1 0), .int (3 : Int32), .int x2, .int x3]) (n := 7) (Nat.le_of_ble_eq_true rfl)
  generalize (lg_sl ([.ref (g.2.1 0), .int (3 : Int32), .int x2, .int x3]) ++ List.replicate (7 - (lg_sl ([.ref (g.2.1 0), .int (3 : Int32), .int x2, .int x3])).length) Slot.unset).toArray = ls at hl ⊢
  have hl : lv_has ls 7 [(0, .ref (g.2.1 0)), (1, .int (3 : Int32)), (2, .int x2), (3, .int x3)] := hl
  have hG : GW g s σ s.heap [] := ⟨hP0, va_S.rf⟩
  have hG : GW g s (mkS σ [(1539, (σ.1 1539)), (2632, (σ.1 2632)), (2372, (σ.1 2372)), (1283, (σ.1 1283))] [] [(11, (σ.2.2.1 11))] []) s.heap [] := GW_self [1539, 2632, 2372, 1283] [] [11] [] hG
  unfold LN_load_s3 at h
  have n104 : ∀ (x4 : Int32) (v_likeness_ready : Int32) (v_pairs_ready : Int32) (v_search_reach : Int32) (v_ways_ready : Int32) (v_now_near : Nat → Int32) (H : Heap) (locs : List Loc) (ls : Array Slot), lv_has ls 7 [(0, .ref (g.2.1 0)), (4, .int x4)] → GW g s (mkS σ [(1539, v_likeness_ready), (2632, v_pairs_ready), (2372, v_search_reach), (1283, v_ways_ready)] [] [(11, v_now_near)] []) H locs → LN_load_s3_n104 (σ.1 641) x4 v_likeness_ready v_pairs_ready v_search_reach v_ways_ready v_now_near = some (r, w_likeness_ready, w_pairs_ready, w_search_reach, w_ways_ready, w_now_near) → Wg p l e 3 68 s m args below meth c g (some (.int r)) (mkS σ [(1539, w_likeness_ready), (2632, w_pairs_ready), (2372, w_search_reach), (1283, w_ways_ready)] [] [(11, w_now_near)] []) H locs (F0 m 104 ls []) := by
    intro x4 v_likeness_ready v_pairs_ready v_search_reach v_ways_ready v_now_near H locs ls hl hG h
    unfold LN_load_s3_n104 at h
    refine lv_aload_n hx hb dX8_load_104 rfl (lv_at hl 0 rfl) ?_
    obtain ⟨z1, hc2, h⟩ := bnd_some h
    refine gx_cV (σ' := (mkS σ [(1539, z1.1), (2632, z1.2.1), (2372, z1.2.2.1), (1283, z1.2.2.2)] [] [(11, v_now_near)] [])) (r := none) (rest := []) (As := []) hS9 (c_LN_forget l g (mkS σ [(1539, v_likeness_ready), (2632, v_pairs_ready), (2372, v_search_reach), (1283, v_ways_ready)] [] [(11, v_now_near)] []) z1.1 z1.2.1 z1.2.2.1 z1.2.2.2 hc2) (mk_mk rfl rfl rfl rfl) (cwV 0 hts (gz_V mw_2_114 mw_2_116 ms_1_0 mw_1_1 mw_2_117) rfl rfl rfl hdV_X8_forget ⟨Nat.le_of_ble_eq_true rfl, Nat.le_of_ble_eq_true rfl⟩) hK hG (ga_0 g _) rfl rfl rfl hl.1 rfl (Nat.le_of_ble_eq_true rfl) dX8_load_105 (fun H locs hG => ?_)
    refine W.eq (g2 := F0 m 108 ls []) rfl ?_
    refine lv_aload_n hx hb dX8_load_108 rfl (lv_at hl 0 rfl) ?_
    refine gx_get (v := .ref (g.2.1 10)) (C := RX8) (T := TX8) (N := 13) hx hb hts mc_X8 hown hK hG (ga_0 g _) rfl 1 (by decide) hw0 rfl rfl dX8_load_109 ?_
    obtain ⟨z3, hc4, h⟩ := bnd_some h
    refine gx_cV (σ' := (mkS σ [(1539, z1.1), (2632, z1.2.1), (2372, z1.2.2.1), (1283, z1.2.2.2)] [] [(11, v_now_near)] [])) (r := (some (.int z3))) (rest := []) (As := []) hS9 (c_Net_roads_10 l g (mkS σ [(1539, z1.1), (2632, z1.2.1), (2372, z1.2.2.1), (1283, z1.2.2.2)] [] [(11, v_now_near)] []) z3 hc4) rfl (cwV 0 hts (gz_V mw_2_160 mw_2_161 mw_2_162 mw_1_3 mw_2_163) rfl rfl rfl hdV_X2_roads ⟨Nat.le_of_ble_eq_true rfl, Nat.le_of_ble_eq_true rfl⟩) hK hG (ga_10 g _) rfl rfl rfl hl.1 rfl (Nat.le_of_ble_eq_true rfl) dX8_load_112 (fun H locs hG => ?_)
    refine W.eq (g2 := F0 m 115 ls [.int z3]) rfl ?_
    refine lv_iload hx hb dX8_load_115 (lv_at hl 1 rfl) ?_
    refine lv_isub hx hb dX8_load_117 ?_
    cases h
    exact gx_iret hx hb hr hlocks hG dX8_load_118
  have n53 : ∀ (k53 : Int32 → Int32 → Int32 → Int32 → Int32 → Int32 → Int32 → Int32 → (Nat → Int32) → Option (Int32 × Int32 × Int32 × Int32 × Int32 × (Nat → Int32))) (hk53 : ∀ (x2 : Int32) (x3 : Int32) (x4 : Int32) (x5 : Int32) (v_likeness_ready : Int32) (v_pairs_ready : Int32) (v_search_reach : Int32) (v_ways_ready : Int32) (v_now_near : Nat → Int32) (H : Heap) (locs : List Loc) (ls : Array Slot), lv_has ls 7 [(0, .ref (g.2.1 0)), (1, .int (3 : Int32)), (2, .int x2), (3, .int x3), (4, .int x4), (5, .int x5)] → GW g s (mkS σ [(1539, v_likeness_ready), (2632, v_pairs_ready), (2372, v_search_reach), (1283, v_ways_ready)] [] [(11, v_now_near)] []) H locs → k53 x2 x3 x4 x5 v_likeness_ready v_pairs_ready v_search_reach v_ways_ready v_now_near = some (r, w_likeness_ready, w_pairs_ready, w_search_reach, w_ways_ready, w_now_near) → Wg p l e 3 68 s m args below meth c g (some (.int r)) (mkS σ [(1539, w_likeness_ready), (2632, w_pairs_ready), (2372, w_search_reach), (1283, w_ways_ready)] [] [(11, w_now_near)] []) H locs (F0 m 53 ls [])) (x2 : Int32) (x3 : Int32) (x4 : Int32) (x5 : Int32) (v_likeness_ready : Int32) (v_pairs_ready : Int32) (v_search_reach : Int32) (v_ways_ready : Int32) (v_now_near : Nat → Int32) (H : Heap) (locs : List Loc) (ls : Array Slot), lv_has ls 7 [(0, .ref (g.2.1 0)), (1, .int (3 : Int32)), (2, .int x2), (3, .int x3), (4, .int x4), (5, .int x5)] → GW g s (mkS σ [(1539, v_likeness_ready), (2632, v_pairs_ready), (2372, v_search_reach), (1283, v_ways_ready)] [] [(11, v_now_near)] []) H locs → LN_load_s3_n53 k53 (σ.1 641) (σ.1 515) (σ.2.2.1 9) x2 x3 x4 x5 v_likeness_ready v_pairs_ready v_search_reach v_ways_ready v_now_near = some (r, w_likeness_ready, w_pairs_ready, w_search_reach, w_ways_ready, w_now_near) → Wg p l e 3 68 s m args below meth c g (some (.int r)) (mkS σ [(1539, w_likeness_ready), (2632, w_pairs_ready), (2372, w_search_reach), (1283, w_ways_ready)] [] [(11, w_now_near)] []) H locs (F0 m 53 ls []) := by
    intro k53 hk53 x2 x3 x4 x5 v_likeness_ready v_pairs_ready v_search_reach v_ways_ready v_now_near H locs ls hl hG h
    unfold LN_load_s3_n53 at h
    refine lv_iload hx hb dX8_load_53 (lv_at hl 5 rfl) ?_
    refine lv_iload_n hx hb dX8_load_55 rfl (lv_at hl 3 rfl) ?_
    refine lv_icmp_ge (tgt := 104) hx hb dX8_load_56 (by decide) (fun c5 => ?_) (fun c5 => ?_)
    · have h := ite_t c5 h
      exact n104 x4 v_likeness_ready v_pairs_ready v_search_reach v_ways_ready v_now_near _ _ _ (lv_sub hl [0, 4] rfl) hG h
    · have h := ite_f c5 h
      refine lv_iload_n hx hb dX8_load_59 rfl (lv_at hl 2 rfl) ?_
      refine lv_iconst (v := (2 : Int32)) hx hb dX8_load_60 (by decide) ?_
      refine lv_iload hx hb dX8_load_61 (lv_at hl 5 rfl) ?_
      refine lv_imul hx hb dX8_load_63 ?_
      refine lv_iadd hx hb dX8_load_64 ?_
      refine lv_istore (lv' := [(6, .int (x2 + ((2 : Int32) * x5))), (0, .ref (g.2.1 0)), (1, .int (3 : Int32)), (2, .int x2), (3, .int x3), (4, .int x4), (5, .int x5)]) hx hb dX8_load_65 hl (Nat.le_of_ble_eq_true rfl) rfl (fun ls hl => ?_)
      refine lv_aload_n hx hb dX8_load_67 rfl (lv_at hl 1 rfl) ?_
      refine gx_get (v := .ref (g.2.1 10)) (C := RX8) (T := TX8) (N := 13) hx hb hts mc_X8 hown hK hG (ga_0 g _) rfl 1 (by decide) hw0 rfl rfl dX8_load_68 ?_
      refine lv_aload_n hx hb dX8_load_71 rfl (lv_at hl 1 rfl) ?_
      refine gx_get (v := .ref (g.2.1 1)) (C := RX8) (T := TX8) (N := 13) hx hb hts mc_X8 hown hK hG (ga_0 g _) rfl 0 (by decide) hw1 rfl rfl dX8_load_72 ?_
      refine lv_iload_n hx hb dX8_load_75 rfl (lv_at hl 2 rfl) ?_
      refine gx_aald (v := .ref (g.2.1 8)) hx hb hK hG (ga_1 g _) (by decide) rfl dX8_load_76 ?_
      refine lv_iload hx hb dX8_load_77 (lv_at hl 0 rfl) ?_
      obtain ⟨z6, hc7, h⟩ := bnd_some h
      refine gx_cV (σ' := (mkS σ [(1539, v_likeness_ready), (2632, v_pairs_ready), (2372, v_search_reach), (1283, v_ways_ready)] [] [(11, v_now_near)] [])) (r := (some (.int z6))) (rest := [.ref (g.2.1 10)]) (As := [.int (x2 + ((2 : Int32) * x5))]) hS9 (c_Sh_read_8 l g (mkS σ [(1539, v_likeness_ready), (2632, v_pairs_ready), (2372, v_search_reach), (1283, v_ways_ready)] [] [(11, v_now_near)] []) (x2 + ((2 : Int32) * x5)) z6 hc7) rfl (cwV 1 hts (gz_V mw_2_155 mw_2_156 mw_2_157 mw_1_2 mw_2_158) rfl rfl rfl hdV_X5_read ⟨Nat.le_of_ble_eq_true rfl, Nat.le_of_ble_eq_true rfl⟩) hK hG (ga_8 g _) rfl rfl rfl hl.1 rfl (Nat.le_of_ble_eq_true rfl) dX8_load_79 (fun H locs hG => ?_)
      refine W.eq (g2 := F0 m 82 ls [.int z6, .ref (g.2.1 10)]) rfl ?_
      refine lv_aload_n hx hb dX8_load_82 rfl (lv_at hl 1 rfl) ?_
      refine gx_get (v := .ref (g.2.1 1)) (C := RX8) (T := TX8) (N := 13) hx hb hts mc_X8 hown hK hG (ga_0 g _) rfl 0 (by decide) hw1 rfl rfl dX8_load_83 ?_
      refine lv_iload_n hx hb dX8_load_86 rfl (lv_at hl 2 rfl) ?_
      refine gx_aald (v := .ref (g.2.1 8)) hx hb hK hG (ga_1 g _) (by decide) rfl dX8_load_87 ?_
      refine lv_iload hx hb dX8_load_88 (lv_at hl 0 rfl) ?_
      refine lv_iconst (v := (1 : Int32)) hx hb dX8_load_90 (by decide) ?_
      refine lv_iadd hx hb dX8_load_91 ?_
      obtain ⟨z8, hc9, h⟩ := bnd_some h
      refine gx_cV (σ' := (mkS σ [(1539, v_likeness_ready), (2632, v_pairs_ready), (2372, v_search_reach), (1283, v_ways_ready)] [] [(11, v_now_near)] [])) (r := (some (.int z8))) (rest := [.int z6, .ref (g.2.1 10)]) (As := [.int ((x2 + ((2 : Int32) * x5)) + (1 : Int32))]) hS9 (c_Sh_read_8 l g (mkS σ [(1539, v_likeness_ready), (2632, v_pairs_ready), (2372, v_search_reach), (1283, v_ways_ready)] [] [(11, v_now_near)] []) ((x2 + ((2 : Int32) * x5)) + (1 : Int32)) z8 hc9) rfl (cwV 1 hts (gz_V mw_2_155 mw_2_156 mw_2_157 mw_1_2 mw_2_158) rfl rfl rfl hdV_X5_read ⟨Nat.le_of_ble_eq_true rfl, Nat.le_of_ble_eq_true rfl⟩) hK hG (ga_8 g _) rfl rfl rfl hl.1 rfl (Nat.le_of_ble_eq_true rfl) dX8_load_92 (fun H locs hG => ?_)
      refine W.eq (g2 := F0 m 95 ls [.int z8, .int z6, .ref (g.2.1 10)]) rfl ?_
      obtain ⟨z10, hc11, h⟩ := bnd_some h
      refine gx_cV (σ' := (mkS σ [(1539, v_likeness_ready), (2632, v_pairs_ready), (2372, v_search_reach), (1283, v_ways_ready)] [] [(11, z10)] [])) (r := none) (rest := []) (As := [.int z6, .int z8]) hS9 (c_Net_join_10 l g (mkS σ [(1539, v_likeness_ready), (2632, v_pairs_ready), (2372, v_search_reach), (1283, v_ways_ready)] [] [(11, v_now_near)] []) z6 z8 z10 hc11) (mk_mk rfl rfl rfl rfl) (cwV 2 hts (gz_V mw_2_137 mw_2_138 mw_2_139 mw_1_3 mw_2_140) rfl rfl rfl hdV_X2_join ⟨Nat.le_of_ble_eq_true rfl, Nat.le_of_ble_eq_true rfl⟩) hK hG (ga_10 g _) rfl rfl rfl hl.1 rfl (Nat.le_of_ble_eq_true rfl) dX8_load_95 (fun H locs hG => ?_)
      refine W.eq (g2 := F0 m 98 ls []) rfl ?_
      refine lv_iinc (v := (x5 + (1 : Int32))) (lv' := [(5, .int (x5 + (1 : Int32))), (6, .int (x2 + ((2 : Int32) * x5))), (0, .ref (g.2.1 0)), (1, .int (3 : Int32)), (2, .int x2), (3, .int x3), (4, .int x4)]) hx hb dX8_load_98 hl (k := 6) rfl (congrArg (fun z => x5 + z) (by decide)) (Nat.le_of_ble_eq_true rfl) rfl (fun ls hl => ?_)
      refine lv_goto (tgt := 53) hx hb dX8_load_101 (by decide) ?_
      exact hk53 x2 x3 x4 (x5 + (1 : Int32)) v_likeness_ready v_pairs_ready v_search_reach v_ways_ready z10 _ _ _ (lv_sub hl [2, 3, 4, 5, 6, 0] rfl) hG h
  have l53 : ∀  (F : Nat) (x2 : Int32) (x3 : Int32) (x4 : Int32) (x5 : Int32) (v_likeness_ready : Int32) (v_pairs_ready : Int32) (v_search_reach : Int32) (v_ways_ready : Int32) (v_now_near : Nat → Int32) (H : Heap) (locs : List Loc) (ls : Array Slot), lv_has ls 7 [(0, .ref (g.2.1 0)), (1, .int (3 : Int32)), (2, .int x2), (3, .int x3), (4, .int x4), (5, .int x5)] → GW g s (mkS σ [(1539, v_likeness_ready), (2632, v_pairs_ready), (2372, v_search_reach), (1283, v_ways_ready)] [] [(11, v_now_near)] []) H locs → LN_load_s3_l53 (σ.1 641) (σ.1 515) (σ.2.2.1 9) F x2 x3 x4 x5 v_likeness_ready v_pairs_ready v_search_reach v_ways_ready v_now_near = some (r, w_likeness_ready, w_pairs_ready, w_search_reach, w_ways_ready, w_now_near) → Wg p l e 3 68 s m args below meth c g (some (.int r)) (mkS σ [(1539, w_likeness_ready), (2632, w_pairs_ready), (2372, w_search_reach), (1283, w_ways_ready)] [] [(11, w_now_near)] []) H locs (F0 m 53 ls []) := by
    intro F
    induction F with
    | zero => intro x2 x3 x4 x5 v_likeness_ready v_pairs_ready v_search_reach v_ways_ready v_now_near H locs ls hl hG h; exact no_some h
    | succ F ih => intro x2 x3 x4 x5 v_likeness_ready v_pairs_ready v_search_reach v_ways_ready v_now_near H locs ls hl hG h; exact n53 (fun x2 x3 x4 x5 v_likeness_ready v_pairs_ready v_search_reach v_ways_ready v_now_near => LN_load_s3_l53 (σ.1 641) (σ.1 515) (σ.2.2.1 9) F x2 x3 x4 x5 v_likeness_ready v_pairs_ready v_search_reach v_ways_ready v_now_near) ih x2 x3 x4 x5 v_likeness_ready v_pairs_ready v_search_reach v_ways_ready v_now_near H locs ls hl hG h
  refine lv_iload_n hx hb dX8_load_0 rfl (lv_at hl 1 rfl) ?_
  obtain ⟨z12, hc13, h⟩ := bnd_some h
  refine gx_cS (σ' := (mkS σ [(1539, (σ.1 1539)), (2632, (σ.1 2632)), (2372, (σ.1 2372)), (1283, (σ.1 1283))] [] [(11, (σ.2.2.1 11))] [])) (r := (some (.int z12))) (rest := []) (As := [.int (3 : Int32)]) hS9 (c_LN_isSheet l g (mkS σ [(1539, (σ.1 1539)), (2632, (σ.1 2632)), (2372, (σ.1 2372)), (1283, (σ.1 1283))] [] [(11, (σ.2.2.1 11))] []) (3 : Int32) z12 hc13) rfl (va_cwS 1 hts (gz_S mw_2_81 mw_2_82 mw_1_1 mw_2_83) rfl rfl rfl hdS_X8_isSheet ⟨Nat.le_of_ble_eq_true rfl, Nat.le_of_ble_eq_true rfl⟩) hK hG rfl hl.1 rfl (Nat.le_of_ble_eq_true rfl) dX8_load_1 (fun H locs hG => ?_)
  refine W.eq (g2 := F0 m 4 ls [.int z12]) rfl ?_
  refine lv_if_ne (tgt := 9) hx hb dX8_load_4 (by decide) (fun c14 => ?_) (fun c14 => ?_)
  · have h := ite_f c14 h
    refine lv_aload_n hx hb dX8_load_9 rfl (lv_at hl 0 rfl) ?_
    refine gx_get (v := .ref (g.2.1 1)) (C := RX8) (T := TX8) (N := 13) hx hb hts mc_X8 hown hK hG (ga_0 g _) rfl 0 (by decide) hw1 rfl rfl dX8_load_10 ?_
    refine lv_iload_n hx hb dX8_load_13 rfl (lv_at hl 1 rfl) ?_
    refine gx_aald (v := .ref (g.2.1 8)) hx hb hK hG (ga_1 g _) (by decide) rfl dX8_load_14 ?_
    refine gx_get (v := .int (σ.1 513)) (C := RX5) (T := TX5) (N := 4) hx hb hts mc_X5 hown hK hG (ga_8 g _) rfl 1 (by decide) hw2 rfl rfl dX8_load_15 ?_
    refine lv_if_ne (tgt := 24) hx hb dX8_load_18 (by decide) (fun c15 => ?_) (fun c15 => ?_)
    · have h := ite_f c15 h
      refine lv_aload_n hx hb dX8_load_24 rfl (lv_at hl 0 rfl) ?_
      refine lv_aload_n hx hb dX8_load_25 rfl (lv_at hl 0 rfl) ?_
      refine gx_get (v := .ref (g.2.1 1)) (C := RX8) (T := TX8) (N := 13) hx hb hts mc_X8 hown hK hG (ga_0 g _) rfl 0 (by decide) hw1 rfl rfl dX8_load_26 ?_
      refine lv_iload_n hx hb dX8_load_29 rfl (lv_at hl 1 rfl) ?_
      refine gx_aald (v := .ref (g.2.1 8)) hx hb hK hG (ga_1 g _) (by decide) rfl dX8_load_30 ?_
      refine lv_iload_n hx hb dX8_load_31 rfl (lv_at hl 2 rfl) ?_
      refine lv_iload_n hx hb dX8_load_32 rfl (lv_at hl 3 rfl) ?_
      obtain ⟨z16, hc17, h⟩ := bnd_some h
      refine gx_cV (σ' := (mkS σ [(1539, (σ.1 1539)), (2632, (σ.1 2632)), (2372, (σ.1 2372)), (1283, (σ.1 1283))] [] [(11, (σ.2.2.1 11))] [])) (r := (some (.int z16))) (rest := []) (As := [.ref (g.2.1 8), .int x2, .int x3]) hS9 (c_LN_mayLoad_0_8 l g (mkS σ [(1539, (σ.1 1539)), (2632, (σ.1 2632)), (2372, (σ.1 2372)), (1283, (σ.1 1283))] [] [(11, (σ.2.2.1 11))] []) x2 x3 z16 hc17) rfl (cwV 3 hts (gz_V mw_2_150 mw_2_152 ms_1_1 mw_1_1 mw_2_153) rfl rfl rfl hdV_X8_mayLoad ⟨Nat.le_of_ble_eq_true rfl, Nat.le_of_ble_eq_true rfl⟩) hK hG (ga_0 g _) rfl rfl rfl hl.1 rfl (Nat.le_of_ble_eq_true rfl) dX8_load_33 (fun H locs hG => ?_)
      refine W.eq (g2 := F0 m 36 ls [.int z16]) rfl ?_
      refine lv_if_ne (tgt := 41) hx hb dX8_load_36 (by decide) (fun c18 => ?_) (fun c18 => ?_)
      · have h := ite_f c18 h
        refine lv_aload_n hx hb dX8_load_41 rfl (lv_at hl 0 rfl) ?_
        refine gx_get (v := .ref (g.2.1 10)) (C := RX8) (T := TX8) (N := 13) hx hb hts mc_X8 hown hK hG (ga_0 g _) rfl 1 (by decide) hw0 rfl rfl dX8_load_42 ?_
        obtain ⟨z19, hc20, h⟩ := bnd_some h
        refine gx_cV (σ' := (mkS σ [(1539, (σ.1 1539)), (2632, (σ.1 2632)), (2372, (σ.1 2372)), (1283, (σ.1 1283))] [] [(11, (σ.2.2.1 11))] [])) (r := (some (.int z19))) (rest := []) (As := []) hS9 (c_Net_roads_10 l g (mkS σ [(1539, (σ.1 1539)), (2632, (σ.1 2632)), (2372, (σ.1 2372)), (1283, (σ.1 1283))] [] [(11, (σ.2.2.1 11))] []) z19 hc20) rfl (cwV 0 hts (gz_V mw_2_160 mw_2_161 mw_2_162 mw_1_3 mw_2_163) rfl rfl rfl hdV_X2_roads ⟨Nat.le_of_ble_eq_true rfl, Nat.le_of_ble_eq_true rfl⟩) hK hG (ga_10 g _) rfl rfl rfl hl.1 rfl (Nat.le_of_ble_eq_true rfl) dX8_load_45 (fun H locs hG => ?_)
        refine W.eq (g2 := F0 m 48 ls [.int z19]) rfl ?_
        refine lv_istore (lv' := [(4, .int z19), (0, .ref (g.2.1 0)), (1, .int (3 : Int32)), (2, .int x2), (3, .int x3)]) hx hb dX8_load_48 hl (Nat.le_of_ble_eq_true rfl) rfl (fun ls hl => ?_)
        refine lv_iconst (v := (0 : Int32)) hx hb dX8_load_50 (by decide) ?_
        refine lv_istore (lv' := [(5, .int (0 : Int32)), (4, .int z19), (0, .ref (g.2.1 0)), (1, .int (3 : Int32)), (2, .int x2), (3, .int x3)]) hx hb dX8_load_51 hl (Nat.le_of_ble_eq_true rfl) rfl (fun ls hl => ?_)
        exact l53 FUEL x2 x3 z19 (0 : Int32) (σ.1 1539) (σ.1 2632) (σ.1 2372) (σ.1 1283) (σ.2.2.1 11) _ _ _ (lv_sub hl [2, 3, 4, 5, 1, 0] rfl) hG h
      · have h := ite_t c18 h
        refine lv_iconst (v := (-1 : Int32)) hx hb dX8_load_39 (by decide) ?_
        cases h
        exact gx_iret hx hb hr hlocks hG dX8_load_40
    · have h := ite_t c15 h
      refine lv_bipush (v := (-3 : Int32)) hx hb dX8_load_21 (by decide) ?_
      cases h
      exact gx_iret hx hb hr hlocks hG dX8_load_23
  · have h := ite_t c14 h
    refine lv_iconst (v := (-1 : Int32)) hx hb dX8_load_7 (by decide) ?_
    cases h
    exact gx_iret hx hb hr hlocks hG dX8_load_8

set_option maxHeartbeats 4000000 in
set_option maxRecDepth 100000 in
theorem c_LN_load_so (l : Launch) (g : GC) (σ : St) (x1 : Int32) (x2 : Int32) (x3 : Int32) (r : Int32) (h : LN_load_so x1 x2 x3 = some r) : Cn l g yX8_load (Cond.code yX8_load cX8_load 7 (some .int) :: wG) 3 68 [.ref (g.2.1 0), .int x1, .int x2, .int x3] σ (some (.int r)) σ := by
  unfold Cn
  refine Met.ofW (cc := cX8_load) (maxL := 7) (ret := (some .int)) (by decide) rfl ?_
  intro p e s m args below meth c s₁ B hml hv
  obtain ⟨hargs, hP0, hK⟩ := hv
  have hx := B.exec
  have hb := B.bytes
  have hr := B.returns
  have hts : ∀ w ∈ wG, w.before args s = true := fun w h => atoms_spec (ws := (Cond.code yX8_load cX8_load 7 (some .int) :: wG)) B.pre w (List.mem_cons_of_mem _ h)
  have hown : s.vm.findClass RX8 = some m.cls := findClass_of_methodNamed B.named
  have hlocks := B.notSynchronized
  have hS9 : CallFix p m c cX8_load 7 s args wG RX8 := ⟨hx, hb, hml, hown, hts⟩
  have hw0 := hts _ mw_2_37
  have hf9 : entryFrame m args 7 = _ := (congrArg (fun a => entryFrame m a 7) hargs).trans (lg_entry_eq m [.ref (g.2.1 0), .int x1, .int x2, .int x3] 7)
  show Wg p l e 3 68 s m args below meth c g (some (.int r)) σ s.heap [] (entryFrame m args 7)
  rw [hf9]
  have hl := lv_entry ([.ref (g.2.1 0), .int x1, .int x2, .int x3]) (n := 7) (Nat.le_of_ble_eq_true rfl)
  generalize (lg_sl ([.ref (g.2.1 0), .int x1, .int x2, .int x3]) ++ List.replicate (7 - (lg_sl ([.ref (g.2.1 0), .int x1, .int x2, .int x3])).length) Slot.unset).toArray = ls at hl ⊢
  have hl : lv_has ls 7 [(0, .ref (g.2.1 0)), (1, .int x1), (2, .int x2), (3, .int x3)] := hl
  have hG : GW g s σ s.heap [] := ⟨hP0, va_S.rf⟩
  unfold LN_load_so at h
  refine lv_iload_n hx hb dX8_load_0 rfl (lv_at hl 1 rfl) ?_
  obtain ⟨z1, hc2, h⟩ := bnd_some h
  refine gx_cS (σ' := σ) (r := (some (.int z1))) (rest := []) (As := [.int x1]) hS9 (c_LN_isSheet l g σ x1 z1 hc2) rfl (va_cwS 1 hts (gz_S mw_2_81 mw_2_82 mw_1_1 mw_2_83) rfl rfl rfl hdS_X8_isSheet ⟨Nat.le_of_ble_eq_true rfl, Nat.le_of_ble_eq_true rfl⟩) hK hG rfl hl.1 rfl (Nat.le_of_ble_eq_true rfl) dX8_load_1 (fun H locs hG => ?_)
  refine W.eq (g2 := F0 m 4 ls [.int z1]) rfl ?_
  refine lv_if_ne (tgt := 9) hx hb dX8_load_4 (by decide) (fun c3 => ?_) (fun c3 => ?_)
  · have h := ite_f c3 h
    refine lv_aload_n hx hb dX8_load_9 rfl (lv_at hl 0 rfl) ?_
    refine gx_get (v := .ref (g.2.1 1)) (C := RX8) (T := TX8) (N := 13) hx hb hts mc_X8 hown hK hG (ga_0 g _) rfl 0 (by decide) hw0 rfl rfl dX8_load_10 ?_
    refine lv_iload_n hx hb dX8_load_13 rfl (lv_at hl 1 rfl) ?_
    exact no_some h
  · have h := ite_t c3 h
    refine lv_iconst (v := (-1 : Int32)) hx hb dX8_load_7 (by decide) ?_
    cases h
    exact gx_iret hx hb hr hlocks hG dX8_load_8

set_option maxHeartbeats 4000000 in
set_option maxRecDepth 100000 in
theorem c_LN_lose_s0 (l : Launch) (g : GC) (σ : St) (r : Int32) (w_sheets0_there : Int32) (h : LN_lose_s0 (σ.1 129) = some (r, w_sheets0_there)) : Cn l g yX8_lose (Cond.code yX8_lose cX8_lose 2 (some .int) :: wG) 1 20 [.ref (g.2.1 0), .int (0 : Int32)] σ (some (.int r)) (mkS σ [(129, w_sheets0_there)] [] [] []) := by
  unfold Cn
  refine Met.ofW (cc := cX8_lose) (maxL := 2) (ret := (some .int)) (by decide) rfl ?_
  intro p e s m args below meth c s₁ B hml hv
  obtain ⟨hargs, hP0, hK⟩ := hv
  have hx := B.exec
  have hb := B.bytes
  have hr := B.returns
  have hts : ∀ w ∈ wG, w.before args s = true := fun w h => atoms_spec (ws := (Cond.code yX8_lose cX8_lose 2 (some .int) :: wG)) B.pre w (List.mem_cons_of_mem _ h)
  have hown : s.vm.findClass RX8 = some m.cls := findClass_of_methodNamed B.named
  have hlocks := B.notSynchronized
  have hS9 : CallFix p m c cX8_lose 2 s args wG RX8 := ⟨hx, hb, hml, hown, hts⟩
  have hw0 := hts _ mw_2_37
  have hw1 := hts _ mw_1_33
  have hf9 : entryFrame m args 2 = _ := (congrArg (fun a => entryFrame m a 2) hargs).trans (lg_entry_eq m [.ref (g.2.1 0), .int (0 : Int32)] 2)
  show Wg p l e 1 20 s m args below meth c g (some (.int r)) (mkS σ [(129, w_sheets0_there)] [] [] []) s.heap [] (entryFrame m args 2)
  rw [hf9]
  have hl := lv_entry ([.ref (g.2.1 0), .int (0 : Int32)]) (n := 2) (Nat.le_of_ble_eq_true rfl)
  generalize (lg_sl ([.ref (g.2.1 0), .int (0 : Int32)]) ++ List.replicate (2 - (lg_sl ([.ref (g.2.1 0), .int (0 : Int32)])).length) Slot.unset).toArray = ls at hl ⊢
  have hl : lv_has ls 2 [(0, .ref (g.2.1 0)), (1, .int (0 : Int32))] := hl
  have hG : GW g s σ s.heap [] := ⟨hP0, va_S.rf⟩
  have hG : GW g s (mkS σ [(129, (σ.1 129))] [] [] []) s.heap [] := GW_self [129] [] [] [] hG
  unfold LN_lose_s0 at h
  refine lv_iload_n hx hb dX8_lose_0 rfl (lv_at hl 1 rfl) ?_
  obtain ⟨z1, hc2, h⟩ := bnd_some h
  refine gx_cS (σ' := (mkS σ [(129, (σ.1 129))] [] [] [])) (r := (some (.int z1))) (rest := []) (As := [.int (0 : Int32)]) hS9 (c_LN_isSheet l g (mkS σ [(129, (σ.1 129))] [] [] []) (0 : Int32) z1 hc2) rfl (va_cwS 1 hts (gz_S mw_2_81 mw_2_82 mw_1_1 mw_2_83) rfl rfl rfl hdS_X8_isSheet ⟨Nat.le_of_ble_eq_true rfl, Nat.le_of_ble_eq_true rfl⟩) hK hG rfl hl.1 rfl (Nat.le_of_ble_eq_true rfl) dX8_lose_1 (fun H locs hG => ?_)
  refine W.eq (g2 := F0 m 4 ls [.int z1]) rfl ?_
  refine lv_if_ne (tgt := 9) hx hb dX8_lose_4 (by decide) (fun c3 => ?_) (fun c3 => ?_)
  · have h := ite_f c3 h
    refine lv_aload_n hx hb dX8_lose_9 rfl (lv_at hl 0 rfl) ?_
    refine gx_get (v := .ref (g.2.1 1)) (C := RX8) (T := TX8) (N := 13) hx hb hts mc_X8 hown hK hG (ga_0 g _) rfl 0 (by decide) hw0 rfl rfl dX8_lose_10 ?_
    refine lv_iload_n hx hb dX8_lose_13 rfl (lv_at hl 1 rfl) ?_
    refine gx_aald (v := .ref (g.2.1 2)) hx hb hK hG (ga_1 g _) (by decide) rfl dX8_lose_14 ?_
    refine gx_get (v := .int (σ.1 129)) (C := RX5) (T := TX5) (N := 4) hx hb hts mc_X5 hown hK hG (ga_2 g _) rfl 1 (by decide) hw1 rfl rfl dX8_lose_15 ?_
    refine lv_if_ne (tgt := 24) hx hb dX8_lose_18 (by decide) (fun c4 => ?_) (fun c4 => ?_)
    · have h := ite_f c4 h
      refine lv_aload_n hx hb dX8_lose_24 rfl (lv_at hl 0 rfl) ?_
      refine gx_get (v := .ref (g.2.1 1)) (C := RX8) (T := TX8) (N := 13) hx hb hts mc_X8 hown hK hG (ga_0 g _) rfl 0 (by decide) hw0 rfl rfl dX8_lose_25 ?_
      refine lv_iload_n hx hb dX8_lose_28 rfl (lv_at hl 1 rfl) ?_
      refine gx_aald (v := .ref (g.2.1 2)) hx hb hK hG (ga_1 g _) (by decide) rfl dX8_lose_29 ?_
      refine lv_iconst (v := (0 : Int32)) hx hb dX8_lose_30 (by decide) ?_
      refine gx_put (σ' := (mkS σ [(129, (0 : Int32))] [] [] [])) (C := RX5) (T := TX5) (N := 4) hx hb hts mc_X5 tyX5 tyX5_ok nmX5 hown hK hG (ga_2 g _) rfl 1 (by decide) hw1 rfl rfl (isb_n (by decide)) (isb_f (by decide)) (Nat.le_of_ble_eq_true rfl) ((gf_129 g _ _).trans (congrArg (g_cells g) (mk_a 0 rfl rfl))) dX8_lose_31 (fun H locs hG => ?_)
      refine lv_iconst (v := (1 : Int32)) hx hb dX8_lose_34 (by decide) ?_
      cases h
      exact gx_iret hx hb hr hlocks hG dX8_lose_35
    · have h := ite_t c4 h
      refine lv_bipush (v := (-3 : Int32)) hx hb dX8_lose_21 (by decide) ?_
      cases h
      exact gx_iret hx hb hr hlocks hG dX8_lose_23
  · have h := ite_t c3 h
    refine lv_iconst (v := (-1 : Int32)) hx hb dX8_lose_7 (by decide) ?_
    cases h
    exact gx_iret hx hb hr hlocks hG dX8_lose_8

set_option maxHeartbeats 4000000 in
set_option maxRecDepth 100000 in
theorem c_LN_lose_s1 (l : Launch) (g : GC) (σ : St) (r : Int32) (w_sheets1_there : Int32) (h : LN_lose_s1 (σ.1 257) = some (r, w_sheets1_there)) : Cn l g yX8_lose (Cond.code yX8_lose cX8_lose 2 (some .int) :: wG) 1 20 [.ref (g.2.1 0), .int (1 : Int32)] σ (some (.int r)) (mkS σ [(257, w_sheets1_there)] [] [] []) := by
  unfold Cn
  refine Met.ofW (cc := cX8_lose) (maxL := 2) (ret := (some .int)) (by decide) rfl ?_
  intro p e s m args below meth c s₁ B hml hv
  obtain ⟨hargs, hP0, hK⟩ := hv
  have hx := B.exec
  have hb := B.bytes
  have hr := B.returns
  have hts : ∀ w ∈ wG, w.before args s = true := fun w h => atoms_spec (ws := (Cond.code yX8_lose cX8_lose 2 (some .int) :: wG)) B.pre w (List.mem_cons_of_mem _ h)
  have hown : s.vm.findClass RX8 = some m.cls := findClass_of_methodNamed B.named
  have hlocks := B.notSynchronized
  have hS9 : CallFix p m c cX8_lose 2 s args wG RX8 := ⟨hx, hb, hml, hown, hts⟩
  have hw0 := hts _ mw_2_37
  have hw1 := hts _ mw_1_33
  have hf9 : entryFrame m args 2 = _ := (congrArg (fun a => entryFrame m a 2) hargs).trans (lg_entry_eq m [.ref (g.2.1 0), .int (1 : Int32)] 2)
  show Wg p l e 1 20 s m args below meth c g (some (.int r)) (mkS σ [(257, w_sheets1_there)] [] [] []) s.heap [] (entryFrame m args 2)
  rw [hf9]
  have hl := lv_entry ([.ref (g.2.1 0), .int (1 : Int32)]) (n := 2) (Nat.le_of_ble_eq_true rfl)
  generalize (lg_sl ([.ref (g.2.1 0), .int (1 : Int32)]) ++ List.replicate (2 - (lg_sl ([.ref (g.2.1 0), .int (1 : Int32)])).length) Slot.unset).toArray = ls at hl ⊢
  have hl : lv_has ls 2 [(0, .ref (g.2.1 0)), (1, .int (1 : Int32))] := hl
  have hG : GW g s σ s.heap [] := ⟨hP0, va_S.rf⟩
  have hG : GW g s (mkS σ [(257, (σ.1 257))] [] [] []) s.heap [] := GW_self [257] [] [] [] hG
  unfold LN_lose_s1 at h
  refine lv_iload_n hx hb dX8_lose_0 rfl (lv_at hl 1 rfl) ?_
  obtain ⟨z1, hc2, h⟩ := bnd_some h
  refine gx_cS (σ' := (mkS σ [(257, (σ.1 257))] [] [] [])) (r := (some (.int z1))) (rest := []) (As := [.int (1 : Int32)]) hS9 (c_LN_isSheet l g (mkS σ [(257, (σ.1 257))] [] [] []) (1 : Int32) z1 hc2) rfl (va_cwS 1 hts (gz_S mw_2_81 mw_2_82 mw_1_1 mw_2_83) rfl rfl rfl hdS_X8_isSheet ⟨Nat.le_of_ble_eq_true rfl, Nat.le_of_ble_eq_true rfl⟩) hK hG rfl hl.1 rfl (Nat.le_of_ble_eq_true rfl) dX8_lose_1 (fun H locs hG => ?_)
  refine W.eq (g2 := F0 m 4 ls [.int z1]) rfl ?_
  refine lv_if_ne (tgt := 9) hx hb dX8_lose_4 (by decide) (fun c3 => ?_) (fun c3 => ?_)
  · have h := ite_f c3 h
    refine lv_aload_n hx hb dX8_lose_9 rfl (lv_at hl 0 rfl) ?_
    refine gx_get (v := .ref (g.2.1 1)) (C := RX8) (T := TX8) (N := 13) hx hb hts mc_X8 hown hK hG (ga_0 g _) rfl 0 (by decide) hw0 rfl rfl dX8_lose_10 ?_
    refine lv_iload_n hx hb dX8_lose_13 rfl (lv_at hl 1 rfl) ?_
    refine gx_aald (v := .ref (g.2.1 4)) hx hb hK hG (ga_1 g _) (by decide) rfl dX8_lose_14 ?_
    refine gx_get (v := .int (σ.1 257)) (C := RX5) (T := TX5) (N := 4) hx hb hts mc_X5 hown hK hG (ga_4 g _) rfl 1 (by decide) hw1 rfl rfl dX8_lose_15 ?_
    refine lv_if_ne (tgt := 24) hx hb dX8_lose_18 (by decide) (fun c4 => ?_) (fun c4 => ?_)
    · have h := ite_f c4 h
      refine lv_aload_n hx hb dX8_lose_24 rfl (lv_at hl 0 rfl) ?_
      refine gx_get (v := .ref (g.2.1 1)) (C := RX8) (T := TX8) (N := 13) hx hb hts mc_X8 hown hK hG (ga_0 g _) rfl 0 (by decide) hw0 rfl rfl dX8_lose_25 ?_
      refine lv_iload_n hx hb dX8_lose_28 rfl (lv_at hl 1 rfl) ?_
      refine gx_aald (v := .ref (g.2.1 4)) hx hb hK hG (ga_1 g _) (by decide) rfl dX8_lose_29 ?_
      refine lv_iconst (v := (0 : Int32)) hx hb dX8_lose_30 (by decide) ?_
      refine gx_put (σ' := (mkS σ [(257, (0 : Int32))] [] [] [])) (C := RX5) (T := TX5) (N := 4) hx hb hts mc_X5 tyX5 tyX5_ok nmX5 hown hK hG (ga_4 g _) rfl 1 (by decide) hw1 rfl rfl (isb_n (by decide)) (isb_f (by decide)) (Nat.le_of_ble_eq_true rfl) ((gf_257 g _ _).trans (congrArg (g_cells g) (mk_a 0 rfl rfl))) dX8_lose_31 (fun H locs hG => ?_)
      refine lv_iconst (v := (1 : Int32)) hx hb dX8_lose_34 (by decide) ?_
      cases h
      exact gx_iret hx hb hr hlocks hG dX8_lose_35
    · have h := ite_t c4 h
      refine lv_bipush (v := (-3 : Int32)) hx hb dX8_lose_21 (by decide) ?_
      cases h
      exact gx_iret hx hb hr hlocks hG dX8_lose_23
  · have h := ite_t c3 h
    refine lv_iconst (v := (-1 : Int32)) hx hb dX8_lose_7 (by decide) ?_
    cases h
    exact gx_iret hx hb hr hlocks hG dX8_lose_8

set_option maxHeartbeats 4000000 in
set_option maxRecDepth 100000 in
theorem c_LN_lose_s2 (l : Launch) (g : GC) (σ : St) (r : Int32) (w_sheets2_there : Int32) (h : LN_lose_s2 (σ.1 385) = some (r, w_sheets2_there)) : Cn l g yX8_lose (Cond.code yX8_lose cX8_lose 2 (some .int) :: wG) 1 20 [.ref (g.2.1 0), .int (2 : Int32)] σ (some (.int r)) (mkS σ [(385, w_sheets2_there)] [] [] []) := by
  unfold Cn
  refine Met.ofW (cc := cX8_lose) (maxL := 2) (ret := (some .int)) (by decide) rfl ?_
  intro p e s m args below meth c s₁ B hml hv
  obtain ⟨hargs, hP0, hK⟩ := hv
  have hx := B.exec
  have hb := B.bytes
  have hr := B.returns
  have hts : ∀ w ∈ wG, w.before args s = true := fun w h => atoms_spec (ws := (Cond.code yX8_lose cX8_lose 2 (some .int) :: wG)) B.pre w (List.mem_cons_of_mem _ h)
  have hown : s.vm.findClass RX8 = some m.cls := findClass_of_methodNamed B.named
  have hlocks := B.notSynchronized
  have hS9 : CallFix p m c cX8_lose 2 s args wG RX8 := ⟨hx, hb, hml, hown, hts⟩
  have hw0 := hts _ mw_2_37
  have hw1 := hts _ mw_1_33
  have hf9 : entryFrame m args 2 = _ := (congrArg (fun a => entryFrame m a 2) hargs).trans (lg_entry_eq m [.ref (g.2.1 0), .int (2 : Int32)] 2)
  show Wg p l e 1 20 s m args below meth c g (some (.int r)) (mkS σ [(385, w_sheets2_there)] [] [] []) s.heap [] (entryFrame m args 2)
  rw [hf9]
  have hl := lv_entry ([.ref (g.2.1 0), .int (2 : Int32)]) (n := 2) (Nat.le_of_ble_eq_true rfl)
  generalize (lg_sl ([.ref (g.2.1 0), .int (2 : Int32)]) ++ List.replicate (2 - (lg_sl ([.ref (g.2.1 0), .int (2 : Int32)])).length) Slot.unset).toArray = ls at hl ⊢
  have hl : lv_has ls 2 [(0, .ref (g.2.1 0)), (1, .int (2 : Int32))] := hl
  have hG : GW g s σ s.heap [] := ⟨hP0, va_S.rf⟩
  have hG : GW g s (mkS σ [(385, (σ.1 385))] [] [] []) s.heap [] := GW_self [385] [] [] [] hG
  unfold LN_lose_s2 at h
  refine lv_iload_n hx hb dX8_lose_0 rfl (lv_at hl 1 rfl) ?_
  obtain ⟨z1, hc2, h⟩ := bnd_some h
  refine gx_cS (σ' := (mkS σ [(385, (σ.1 385))] [] [] [])) (r := (some (.int z1))) (rest := []) (As := [.int (2 : Int32)]) hS9 (c_LN_isSheet l g (mkS σ [(385, (σ.1 385))] [] [] []) (2 : Int32) z1 hc2) rfl (va_cwS 1 hts (gz_S mw_2_81 mw_2_82 mw_1_1 mw_2_83) rfl rfl rfl hdS_X8_isSheet ⟨Nat.le_of_ble_eq_true rfl, Nat.le_of_ble_eq_true rfl⟩) hK hG rfl hl.1 rfl (Nat.le_of_ble_eq_true rfl) dX8_lose_1 (fun H locs hG => ?_)
  refine W.eq (g2 := F0 m 4 ls [.int z1]) rfl ?_
  refine lv_if_ne (tgt := 9) hx hb dX8_lose_4 (by decide) (fun c3 => ?_) (fun c3 => ?_)
  · have h := ite_f c3 h
    refine lv_aload_n hx hb dX8_lose_9 rfl (lv_at hl 0 rfl) ?_
    refine gx_get (v := .ref (g.2.1 1)) (C := RX8) (T := TX8) (N := 13) hx hb hts mc_X8 hown hK hG (ga_0 g _) rfl 0 (by decide) hw0 rfl rfl dX8_lose_10 ?_
    refine lv_iload_n hx hb dX8_lose_13 rfl (lv_at hl 1 rfl) ?_
    refine gx_aald (v := .ref (g.2.1 6)) hx hb hK hG (ga_1 g _) (by decide) rfl dX8_lose_14 ?_
    refine gx_get (v := .int (σ.1 385)) (C := RX5) (T := TX5) (N := 4) hx hb hts mc_X5 hown hK hG (ga_6 g _) rfl 1 (by decide) hw1 rfl rfl dX8_lose_15 ?_
    refine lv_if_ne (tgt := 24) hx hb dX8_lose_18 (by decide) (fun c4 => ?_) (fun c4 => ?_)
    · have h := ite_f c4 h
      refine lv_aload_n hx hb dX8_lose_24 rfl (lv_at hl 0 rfl) ?_
      refine gx_get (v := .ref (g.2.1 1)) (C := RX8) (T := TX8) (N := 13) hx hb hts mc_X8 hown hK hG (ga_0 g _) rfl 0 (by decide) hw0 rfl rfl dX8_lose_25 ?_
      refine lv_iload_n hx hb dX8_lose_28 rfl (lv_at hl 1 rfl) ?_
      refine gx_aald (v := .ref (g.2.1 6)) hx hb hK hG (ga_1 g _) (by decide) rfl dX8_lose_29 ?_
      refine lv_iconst (v := (0 : Int32)) hx hb dX8_lose_30 (by decide) ?_
      refine gx_put (σ' := (mkS σ [(385, (0 : Int32))] [] [] [])) (C := RX5) (T := TX5) (N := 4) hx hb hts mc_X5 tyX5 tyX5_ok nmX5 hown hK hG (ga_6 g _) rfl 1 (by decide) hw1 rfl rfl (isb_n (by decide)) (isb_f (by decide)) (Nat.le_of_ble_eq_true rfl) ((gf_385 g _ _).trans (congrArg (g_cells g) (mk_a 0 rfl rfl))) dX8_lose_31 (fun H locs hG => ?_)
      refine lv_iconst (v := (1 : Int32)) hx hb dX8_lose_34 (by decide) ?_
      cases h
      exact gx_iret hx hb hr hlocks hG dX8_lose_35
    · have h := ite_t c4 h
      refine lv_bipush (v := (-3 : Int32)) hx hb dX8_lose_21 (by decide) ?_
      cases h
      exact gx_iret hx hb hr hlocks hG dX8_lose_23
  · have h := ite_t c3 h
    refine lv_iconst (v := (-1 : Int32)) hx hb dX8_lose_7 (by decide) ?_
    cases h
    exact gx_iret hx hb hr hlocks hG dX8_lose_8

set_option maxHeartbeats 4000000 in
set_option maxRecDepth 100000 in
theorem c_LN_lose_s3 (l : Launch) (g : GC) (σ : St) (r : Int32) (w_sheets3_there : Int32) (h : LN_lose_s3 (σ.1 513) = some (r, w_sheets3_there)) : Cn l g yX8_lose (Cond.code yX8_lose cX8_lose 2 (some .int) :: wG) 1 20 [.ref (g.2.1 0), .int (3 : Int32)] σ (some (.int r)) (mkS σ [(513, w_sheets3_there)] [] [] []) := by
  unfold Cn
  refine Met.ofW (cc := cX8_lose) (maxL := 2) (ret := (some .int)) (by decide) rfl ?_
  intro p e s m args below meth c s₁ B hml hv
  obtain ⟨hargs, hP0, hK⟩ := hv
  have hx := B.exec
  have hb := B.bytes
  have hr := B.returns
  have hts : ∀ w ∈ wG, w.before args s = true := fun w h => atoms_spec (ws := (Cond.code yX8_lose cX8_lose 2 (some .int) :: wG)) B.pre w (List.mem_cons_of_mem _ h)
  have hown : s.vm.findClass RX8 = some m.cls := findClass_of_methodNamed B.named
  have hlocks := B.notSynchronized
  have hS9 : CallFix p m c cX8_lose 2 s args wG RX8 := ⟨hx, hb, hml, hown, hts⟩
  have hw0 := hts _ mw_2_37
  have hw1 := hts _ mw_1_33
  have hf9 : entryFrame m args 2 = _ := (congrArg (fun a => entryFrame m a 2) hargs).trans (lg_entry_eq m [.ref (g.2.1 0), .int (3 : Int32)] 2)
  show Wg p l e 1 20 s m args below meth c g (some (.int r)) (mkS σ [(513, w_sheets3_there)] [] [] []) s.heap [] (entryFrame m args 2)
  rw [hf9]
  have hl := lv_entry ([.ref (g.2.1 0), .int (3 : Int32)]) (n := 2) (Nat.le_of_ble_eq_true rfl)
  generalize (lg_sl ([.ref (g.2.1 0), .int (3 : Int32)]) ++ List.replicate (2 - (lg_sl ([.ref (g.2.1 0), .int (3 : Int32)])).length) Slot.unset).toArray = ls at hl ⊢
  have hl : lv_has ls 2 [(0, .ref (g.2.1 0)), (1, .int (3 : Int32))] := hl
  have hG : GW g s σ s.heap [] := ⟨hP0, va_S.rf⟩
  have hG : GW g s (mkS σ [(513, (σ.1 513))] [] [] []) s.heap [] := GW_self [513] [] [] [] hG
  unfold LN_lose_s3 at h
  refine lv_iload_n hx hb dX8_lose_0 rfl (lv_at hl 1 rfl) ?_
  obtain ⟨z1, hc2, h⟩ := bnd_some h
  refine gx_cS (σ' := (mkS σ [(513, (σ.1 513))] [] [] [])) (r := (some (.int z1))) (rest := []) (As := [.int (3 : Int32)]) hS9 (c_LN_isSheet l g (mkS σ [(513, (σ.1 513))] [] [] []) (3 : Int32) z1 hc2) rfl (va_cwS 1 hts (gz_S mw_2_81 mw_2_82 mw_1_1 mw_2_83) rfl rfl rfl hdS_X8_isSheet ⟨Nat.le_of_ble_eq_true rfl, Nat.le_of_ble_eq_true rfl⟩) hK hG rfl hl.1 rfl (Nat.le_of_ble_eq_true rfl) dX8_lose_1 (fun H locs hG => ?_)
  refine W.eq (g2 := F0 m 4 ls [.int z1]) rfl ?_
  refine lv_if_ne (tgt := 9) hx hb dX8_lose_4 (by decide) (fun c3 => ?_) (fun c3 => ?_)
  · have h := ite_f c3 h
    refine lv_aload_n hx hb dX8_lose_9 rfl (lv_at hl 0 rfl) ?_
    refine gx_get (v := .ref (g.2.1 1)) (C := RX8) (T := TX8) (N := 13) hx hb hts mc_X8 hown hK hG (ga_0 g _) rfl 0 (by decide) hw0 rfl rfl dX8_lose_10 ?_
    refine lv_iload_n hx hb dX8_lose_13 rfl (lv_at hl 1 rfl) ?_
    refine gx_aald (v := .ref (g.2.1 8)) hx hb hK hG (ga_1 g _) (by decide) rfl dX8_lose_14 ?_
    refine gx_get (v := .int (σ.1 513)) (C := RX5) (T := TX5) (N := 4) hx hb hts mc_X5 hown hK hG (ga_8 g _) rfl 1 (by decide) hw1 rfl rfl dX8_lose_15 ?_
    refine lv_if_ne (tgt := 24) hx hb dX8_lose_18 (by decide) (fun c4 => ?_) (fun c4 => ?_)
    · have h := ite_f c4 h
      refine lv_aload_n hx hb dX8_lose_24 rfl (lv_at hl 0 rfl) ?_
      refine gx_get (v := .ref (g.2.1 1)) (C := RX8) (T := TX8) (N := 13) hx hb hts mc_X8 hown hK hG (ga_0 g _) rfl 0 (by decide) hw0 rfl rfl dX8_lose_25 ?_
      refine lv_iload_n hx hb dX8_lose_28 rfl (lv_at hl 1 rfl) ?_
      refine gx_aald (v := .ref (g.2.1 8)) hx hb hK hG (ga_1 g _) (by decide) rfl dX8_lose_29 ?_
      refine lv_iconst (v := (0 : Int32)) hx hb dX8_lose_30 (by decide) ?_
      refine gx_put (σ' := (mkS σ [(513, (0 : Int32))] [] [] [])) (C := RX5) (T := TX5) (N := 4) hx hb hts mc_X5 tyX5 tyX5_ok nmX5 hown hK hG (ga_8 g _) rfl 1 (by decide) hw1 rfl rfl (isb_n (by decide)) (isb_f (by decide)) (Nat.le_of_ble_eq_true rfl) ((gf_513 g _ _).trans (congrArg (g_cells g) (mk_a 0 rfl rfl))) dX8_lose_31 (fun H locs hG => ?_)
      refine lv_iconst (v := (1 : Int32)) hx hb dX8_lose_34 (by decide) ?_
      cases h
      exact gx_iret hx hb hr hlocks hG dX8_lose_35
    · have h := ite_t c4 h
      refine lv_bipush (v := (-3 : Int32)) hx hb dX8_lose_21 (by decide) ?_
      cases h
      exact gx_iret hx hb hr hlocks hG dX8_lose_23
  · have h := ite_t c3 h
    refine lv_iconst (v := (-1 : Int32)) hx hb dX8_lose_7 (by decide) ?_
    cases h
    exact gx_iret hx hb hr hlocks hG dX8_lose_8

set_option maxHeartbeats 4000000 in
set_option maxRecDepth 100000 in
theorem c_LN_lose_so (l : Launch) (g : GC) (σ : St) (x1 : Int32) (r : Int32) (h : LN_lose_so x1 = some r) : Cn l g yX8_lose (Cond.code yX8_lose cX8_lose 2 (some .int) :: wG) 1 20 [.ref (g.2.1 0), .int x1] σ (some (.int r)) σ := by
  unfold Cn
  refine Met.ofW (cc := cX8_lose) (maxL := 2) (ret := (some .int)) (by decide) rfl ?_
  intro p e s m args below meth c s₁ B hml hv
  obtain ⟨hargs, hP0, hK⟩ := hv
  have hx := B.exec
  have hb := B.bytes
  have hr := B.returns
  have hts : ∀ w ∈ wG, w.before args s = true := fun w h => atoms_spec (ws := (Cond.code yX8_lose cX8_lose 2 (some .int) :: wG)) B.pre w (List.mem_cons_of_mem _ h)
  have hown : s.vm.findClass RX8 = some m.cls := findClass_of_methodNamed B.named
  have hlocks := B.notSynchronized
  have hS9 : CallFix p m c cX8_lose 2 s args wG RX8 := ⟨hx, hb, hml, hown, hts⟩
  have hw0 := hts _ mw_2_37
  have hf9 : entryFrame m args 2 = _ := (congrArg (fun a => entryFrame m a 2) hargs).trans (lg_entry_eq m [.ref (g.2.1 0), .int x1] 2)
  show Wg p l e 1 20 s m args below meth c g (some (.int r)) σ s.heap [] (entryFrame m args 2)
  rw [hf9]
  have hl := lv_entry ([.ref (g.2.1 0), .int x1]) (n := 2) (Nat.le_of_ble_eq_true rfl)
  generalize (lg_sl ([.ref (g.2.1 0), .int x1]) ++ List.replicate (2 - (lg_sl ([.ref (g.2.1 0), .int x1])).length) Slot.unset).toArray = ls at hl ⊢
  have hl : lv_has ls 2 [(0, .ref (g.2.1 0)), (1, .int x1)] := hl
  have hG : GW g s σ s.heap [] := ⟨hP0, va_S.rf⟩
  unfold LN_lose_so at h
  refine lv_iload_n hx hb dX8_lose_0 rfl (lv_at hl 1 rfl) ?_
  obtain ⟨z1, hc2, h⟩ := bnd_some h
  refine gx_cS (σ' := σ) (r := (some (.int z1))) (rest := []) (As := [.int x1]) hS9 (c_LN_isSheet l g σ x1 z1 hc2) rfl (va_cwS 1 hts (gz_S mw_2_81 mw_2_82 mw_1_1 mw_2_83) rfl rfl rfl hdS_X8_isSheet ⟨Nat.le_of_ble_eq_true rfl, Nat.le_of_ble_eq_true rfl⟩) hK hG rfl hl.1 rfl (Nat.le_of_ble_eq_true rfl) dX8_lose_1 (fun H locs hG => ?_)
  refine W.eq (g2 := F0 m 4 ls [.int z1]) rfl ?_
  refine lv_if_ne (tgt := 9) hx hb dX8_lose_4 (by decide) (fun c3 => ?_) (fun c3 => ?_)
  · have h := ite_f c3 h
    refine lv_aload_n hx hb dX8_lose_9 rfl (lv_at hl 0 rfl) ?_
    refine gx_get (v := .ref (g.2.1 1)) (C := RX8) (T := TX8) (N := 13) hx hb hts mc_X8 hown hK hG (ga_0 g _) rfl 0 (by decide) hw0 rfl rfl dX8_lose_10 ?_
    refine lv_iload_n hx hb dX8_lose_13 rfl (lv_at hl 1 rfl) ?_
    exact no_some h
  · have h := ite_t c3 h
    refine lv_iconst (v := (-1 : Int32)) hx hb dX8_lose_7 (by decide) ?_
    cases h
    exact gx_iret hx hb hr hlocks hG dX8_lose_8

set_option maxHeartbeats 4000000 in
set_option maxRecDepth 100000 in
theorem c_LN_oneIf (l : Launch) (g : GC) (σ : St) (x0 : Int32) (r : Int32) (h : LN_oneIf x0 = some r) : Cn l g yX8_oneIf (Cond.code yX8_oneIf cX8_oneIf 1 (some .int) :: wG) 0 0 [.int x0] σ (some (.int r)) σ := by
  unfold Cn
  refine Met.ofW (cc := cX8_oneIf) (maxL := 1) (ret := (some .int)) (by decide) rfl ?_
  intro p e s m args below meth c s₁ B hml hv
  obtain ⟨hargs, hP0, hK⟩ := hv
  have hx := B.exec
  have hb := B.bytes
  have hr := B.returns
  have hts : ∀ w ∈ wG, w.before args s = true := fun w h => atoms_spec (ws := (Cond.code yX8_oneIf cX8_oneIf 1 (some .int) :: wG)) B.pre w (List.mem_cons_of_mem _ h)
  have hown : s.vm.findClass RX8 = some m.cls := findClass_of_methodNamed B.named
  have hlocks := B.notSynchronized
  have hf9 : entryFrame m args 1 = _ := (congrArg (fun a => entryFrame m a 1) hargs).trans (lg_entry_eq m [.int x0] 1)
  show Wg p l e 0 0 s m args below meth c g (some (.int r)) σ s.heap [] (entryFrame m args 1)
  rw [hf9]
  have hl := lv_entry ([.int x0]) (n := 1) (Nat.le_of_ble_eq_true rfl)
  generalize (lg_sl ([.int x0]) ++ List.replicate (1 - (lg_sl ([.int x0])).length) Slot.unset).toArray = ls at hl ⊢
  have hl : lv_has ls 1 [(0, .int x0)] := hl
  have hG : GW g s σ s.heap [] := ⟨hP0, va_S.rf⟩
  unfold LN_oneIf at h
  have n9 : ∀ (t0 : Int32) (H : Heap) (locs : List Loc) (ls : Array Slot), lv_has ls 1 [] → GW g s σ H locs → LN_oneIf_n9 t0 = some r → Wg p l e 0 0 s m args below meth c g (some (.int r)) σ H locs (F0 m 9 ls [.int t0]) := by
    intro t0 H locs ls hl hG h
    unfold LN_oneIf_n9 at h
    cases h
    exact gx_iret hx hb hr hlocks hG dX8_oneIf_9
  refine lv_iload_n hx hb dX8_oneIf_0 rfl (lv_at hl 0 rfl) ?_
  refine lv_if_eq (tgt := 8) hx hb dX8_oneIf_1 (by decide) (fun c1 => ?_) (fun c1 => ?_)
  · have h := ite_t c1 h
    refine lv_iconst (v := (0 : Int32)) hx hb dX8_oneIf_8 (by decide) ?_
    exact n9 (0 : Int32) _ _ _ (lv_sub hl [] rfl) hG h
  · have h := ite_f c1 h
    refine lv_iconst (v := (1 : Int32)) hx hb dX8_oneIf_4 (by decide) ?_
    refine lv_goto (tgt := 9) hx hb dX8_oneIf_5 (by decide) ?_
    exact n9 (1 : Int32) _ _ _ (lv_sub hl [] rfl) hG h

set_option maxHeartbeats 4000000 in
set_option maxRecDepth 100000 in
theorem c_Net_isEven_10 (l : Launch) (g : GC) (σ : St) (r : Int32) (h : Net_isEven (σ.1 641) (σ.2.2.1 11) = some r) : Cn l g yX2_isEven (Cond.code yX2_isEven cX2_isEven 2 (some .boolean) :: wG) 2 41 [.ref (g.2.1 10)] σ (some (.int r)) σ := by
  unfold Cn
  refine Met.ofW (cc := cX2_isEven) (maxL := 2) (ret := (some .boolean)) (by decide) rfl ?_
  intro p e s m args below meth c s₁ B hml hv
  obtain ⟨hargs, hP0, hK⟩ := hv
  have hx := B.exec
  have hb := B.bytes
  have hr := B.returns
  have hts : ∀ w ∈ wG, w.before args s = true := fun w h => atoms_spec (ws := (Cond.code yX2_isEven cX2_isEven 2 (some .boolean) :: wG)) B.pre w (List.mem_cons_of_mem _ h)
  have hown : s.vm.findClass RX2 = some m.cls := findClass_of_methodNamed B.named
  have hlocks := B.notSynchronized
  have hS9 : CallFix p m c cX2_isEven 2 s args wG RX2 := ⟨hx, hb, hml, hown, hts⟩
  have hw0 := hts _ mw_1_56
  have hf9 : entryFrame m args 2 = _ := (congrArg (fun a => entryFrame m a 2) hargs).trans (lg_entry_eq m [.ref (g.2.1 10)] 2)
  show Wg p l e 2 41 s m args below meth c g (some (.int r)) σ s.heap [] (entryFrame m args 2)
  rw [hf9]
  have hl := lv_entry ([.ref (g.2.1 10)]) (n := 2) (Nat.le_of_ble_eq_true rfl)
  generalize (lg_sl ([.ref (g.2.1 10)]) ++ List.replicate (2 - (lg_sl ([.ref (g.2.1 10)])).length) Slot.unset).toArray = ls at hl ⊢
  have hl : lv_has ls 2 [(0, .ref (g.2.1 10))] := hl
  have hG : GW g s σ s.heap [] := ⟨hP0, va_S.rf⟩
  unfold Net_isEven at h
  have n23 : ∀  (H : Heap) (locs : List Loc) (ls : Array Slot), lv_has ls 2 [] → GW g s σ H locs → Net_isEven_n23 = some r → Wg p l e 2 41 s m args below meth c g (some (.int r)) σ H locs (F0 m 23 ls []) := by
    intro H locs ls hl hG h
    unfold Net_isEven_n23 at h
    refine lv_iconst (v := (0 : Int32)) hx hb dX2_isEven_23 (by decide) ?_
    cases h
    exact gx_zret hx hb hr hlocks (by decide) hG dX2_isEven_24
  have n31 : ∀  (H : Heap) (locs : List Loc) (ls : Array Slot), lv_has ls 2 [] → GW g s σ H locs → Net_isEven_n31 = some r → Wg p l e 2 41 s m args below meth c g (some (.int r)) σ H locs (F0 m 31 ls []) := by
    intro H locs ls hl hG h
    unfold Net_isEven_n31 at h
    refine lv_iconst (v := (1 : Int32)) hx hb dX2_isEven_31 (by decide) ?_
    cases h
    exact gx_zret hx hb hr hlocks (by decide) hG dX2_isEven_32
  have n2 : ∀ (k2 : Int32 → Option (Int32)) (hk2 : ∀ (x1 : Int32) (H : Heap) (locs : List Loc) (ls : Array Slot), lv_has ls 2 [(0, .ref (g.2.1 10)), (1, .int x1)] → GW g s σ H locs → k2 x1 = some r → Wg p l e 2 41 s m args below meth c g (some (.int r)) σ H locs (F0 m 2 ls [])) (x1 : Int32) (H : Heap) (locs : List Loc) (ls : Array Slot), lv_has ls 2 [(0, .ref (g.2.1 10)), (1, .int x1)] → GW g s σ H locs → Net_isEven_n2 k2 (σ.1 641) (σ.2.2.1 11) x1 = some r → Wg p l e 2 41 s m args below meth c g (some (.int r)) σ H locs (F0 m 2 ls []) := by
    intro k2 hk2 x1 H locs ls hl hG h
    unfold Net_isEven_n2 at h
    refine lv_iload_n hx hb dX2_isEven_2 rfl (lv_at hl 1 rfl) ?_
    refine lv_aload_n hx hb dX2_isEven_3 rfl (lv_at hl 0 rfl) ?_
    refine gx_get (v := .int (σ.1 641)) (C := RX2) (T := TX2) (N := 2) hx hb hts mc_X2 hown hK hG (ga_10 g _) rfl 1 (by decide) hw0 rfl rfl dX2_isEven_4 ?_
    refine lv_icmp_ge (tgt := 31) hx hb dX2_isEven_7 (by decide) (fun c1 => ?_) (fun c1 => ?_)
    · have h := ite_t c1 h
      exact n31 _ _ _ (lv_sub hl [] rfl) hG h
    · have h := ite_f c1 h
      refine lv_aload_n hx hb dX2_isEven_10 rfl (lv_at hl 0 rfl) ?_
      refine lv_iload_n hx hb dX2_isEven_11 rfl (lv_at hl 1 rfl) ?_
      obtain ⟨z2, hc3, h⟩ := bnd_some h
      refine gx_cV (σ' := σ) (r := (some (.int z2))) (rest := []) (As := [.int x1]) hS9 (c_Net_fullness_10 l g σ x1 z2 hc3) rfl (cwV 1 hts (gz_V mw_2_164 mw_2_165 mw_2_166 mw_1_3 mw_2_167) rfl rfl rfl hdV_X2_fullness ⟨Nat.le_of_ble_eq_true rfl, Nat.le_of_ble_eq_true rfl⟩) hK hG (ga_10 g _) rfl rfl rfl hl.1 rfl (Nat.le_of_ble_eq_true rfl) dX2_isEven_12 (fun H locs hG => ?_)
      refine W.eq (g2 := F0 m 15 ls [.int z2]) rfl ?_
      refine lv_aload_n hx hb dX2_isEven_15 rfl (lv_at hl 0 rfl) ?_
      refine lv_iconst (v := (0 : Int32)) hx hb dX2_isEven_16 (by decide) ?_
      obtain ⟨z4, hc5, h⟩ := bnd_some h
      refine gx_cV (σ' := σ) (r := (some (.int z4))) (rest := [.int z2]) (As := [.int (0 : Int32)]) hS9 (c_Net_fullness_10 l g σ (0 : Int32) z4 hc5) rfl (cwV 1 hts (gz_V mw_2_164 mw_2_165 mw_2_166 mw_1_3 mw_2_167) rfl rfl rfl hdV_X2_fullness ⟨Nat.le_of_ble_eq_true rfl, Nat.le_of_ble_eq_true rfl⟩) hK hG (ga_10 g _) rfl rfl rfl hl.1 rfl (Nat.le_of_ble_eq_true rfl) dX2_isEven_17 (fun H locs hG => ?_)
      refine W.eq (g2 := F0 m 20 ls [.int z4, .int z2]) rfl ?_
      refine lv_icmp_eq (tgt := 25) hx hb dX2_isEven_20 (by decide) (fun c6 => ?_) (fun c6 => ?_)
      · have h := ite_t c6 h
        refine lv_iinc (v := (x1 + (1 : Int32))) (lv' := [(1, .int (x1 + (1 : Int32))), (0, .ref (g.2.1 10))]) hx hb dX2_isEven_25 hl (k := 1) rfl (congrArg (fun z => x1 + z) (by decide)) (Nat.le_of_ble_eq_true rfl) rfl (fun ls hl => ?_)
        refine lv_goto (tgt := 2) hx hb dX2_isEven_28 (by decide) ?_
        exact hk2 (x1 + (1 : Int32)) _ _ _ (lv_sub hl [1, 0] rfl) hG h
      · have h := ite_f c6 h
        exact n23 _ _ _ (lv_sub hl [] rfl) hG h
  have l2 : ∀  (F : Nat) (x1 : Int32) (H : Heap) (locs : List Loc) (ls : Array Slot), lv_has ls 2 [(0, .ref (g.2.1 10)), (1, .int x1)] → GW g s σ H locs → Net_isEven_l2 (σ.1 641) (σ.2.2.1 11) F x1 = some r → Wg p l e 2 41 s m args below meth c g (some (.int r)) σ H locs (F0 m 2 ls []) := by
    intro F
    induction F with
    | zero => intro x1 H locs ls hl hG h; exact no_some h
    | succ F ih => intro x1 H locs ls hl hG h; exact n2 (fun x1 => Net_isEven_l2 (σ.1 641) (σ.2.2.1 11) F x1) ih x1 H locs ls hl hG h
  refine lv_iconst (v := (1 : Int32)) hx hb dX2_isEven_0 (by decide) ?_
  refine lv_istore_n (lv' := [(1, .int (1 : Int32)), (0, .ref (g.2.1 10))]) hx hb dX2_isEven_1 rfl hl (Nat.le_of_ble_eq_true rfl) rfl (fun ls hl => ?_)
  exact l2 FUEL (1 : Int32) _ _ _ (lv_sub hl [1, 0] rfl) hG h

set_option maxHeartbeats 4000000 in
set_option maxRecDepth 100000 in
theorem c_Wy_ringSeen (l : Launch) (g : GC) (σ : St) (x2 : Int32) (x3 : Int32) (r : Int32) (h : Wy_ringSeen x2 x3 (σ.2.2.1 22) (σ.2.2.1 11) (σ.2.2.1 21) = some r) : Cn l g yX7_ringSeen (Cond.code yX7_ringSeen cX7_ringSeen 5 (some .int) :: wG) 1 22 [.ref (g.2.1 20), .ref (g.2.1 10), .int x2, .int x3] σ (some (.int r)) σ := by
  unfold Cn
  refine Met.ofW (cc := cX7_ringSeen) (maxL := 5) (ret := (some .int)) (by decide) rfl ?_
  intro p e s m args below meth c s₁ B hml hv
  obtain ⟨hargs, hP0, hK⟩ := hv
  have hx := B.exec
  have hb := B.bytes
  have hr := B.returns
  have hts : ∀ w ∈ wG, w.before args s = true := fun w h => atoms_spec (ws := (Cond.code yX7_ringSeen cX7_ringSeen 5 (some .int) :: wG)) B.pre w (List.mem_cons_of_mem _ h)
  have hown : s.vm.findClass RX7 = some m.cls := findClass_of_methodNamed B.named
  have hlocks := B.notSynchronized
  have hS9 : CallFix p m c cX7_ringSeen 5 s args wG RX7 := ⟨hx, hb, hml, hown, hts⟩
  have hw0 := hts _ mw_1_55
  have hf9 : entryFrame m args 5 = _ := (congrArg (fun a => entryFrame m a 5) hargs).trans (lg_entry_eq m [.ref (g.2.1 20), .ref (g.2.1 10), .int x2, .int x3] 5)
  show Wg p l e 1 22 s m args below meth c g (some (.int r)) σ s.heap [] (entryFrame m args 5)
  rw [hf9]
  have hl := lv_entry ([.ref (g.2.1 20), .ref (g.2.1 10), .int x2, .int x3]) (n := 5) (Nat.le_of_ble_eq_true rfl)
  generalize (lg_sl ([.ref (g.2.1 20), .ref (g.2.1 10), .int x2, .int x3]) ++ List.replicate (5 - (lg_sl ([.ref (g.2.1 20), .ref (g.2.1 10), .int x2, .int x3])).length) Slot.unset).toArray = ls at hl ⊢
  have hl : lv_has ls 5 [(0, .ref (g.2.1 20)), (1, .ref (g.2.1 10)), (2, .int x2), (3, .int x3)] := hl
  have hG : GW g s σ s.heap [] := ⟨hP0, va_S.rf⟩
  unfold Wy_ringSeen at h
  have n71 : ∀ (t0 : Int32) (H : Heap) (locs : List Loc) (ls : Array Slot), lv_has ls 5 [] → GW g s σ H locs → Wy_ringSeen_n71 t0 = some r → Wg p l e 1 22 s m args below meth c g (some (.int r)) σ H locs (F0 m 71 ls [.int t0]) := by
    intro t0 H locs ls hl hG h
    unfold Wy_ringSeen_n71 at h
    cases h
    exact gx_iret hx hb hr hlocks hG dX7_ringSeen_71
  refine lv_aload_n hx hb dX7_ringSeen_0 rfl (lv_at hl 0 rfl) ?_
  refine lv_iload_n hx hb dX7_ringSeen_1 rfl (lv_at hl 2 rfl) ?_
  refine lv_iload_n hx hb dX7_ringSeen_2 rfl (lv_at hl 3 rfl) ?_
  obtain ⟨z1, hc2, h⟩ := bnd_some h
  refine gx_cV (σ' := σ) (r := (some (.int z1))) (rest := []) (As := [.int x2, .int x3]) hS9 (c_Wy_between l g σ x2 x3 z1 hc2) rfl (cwV 2 hts (gz_V mw_3_60 mw_3_34 mw_3_35 mw_1_5 mw_3_36) rfl rfl rfl hdV_X7_between ⟨Nat.le_of_ble_eq_true rfl, Nat.le_of_ble_eq_true rfl⟩) hK hG (ga_20 g _) rfl rfl rfl hl.1 rfl (Nat.le_of_ble_eq_true rfl) dX7_ringSeen_3 (fun H locs hG => ?_)
  refine W.eq (g2 := F0 m 6 ls [.int z1]) rfl ?_
  refine lv_istore (lv' := [(4, .int z1), (0, .ref (g.2.1 20)), (1, .ref (g.2.1 10)), (2, .int x2), (3, .int x3)]) hx hb dX7_ringSeen_6 hl (Nat.le_of_ble_eq_true rfl) rfl (fun ls hl => ?_)
  refine lv_iload hx hb dX7_ringSeen_8 (lv_at hl 0 rfl) ?_
  refine lv_iconst (v := (1 : Int32)) hx hb dX7_ringSeen_10 (by decide) ?_
  refine lv_icmp_ge (tgt := 16) hx hb dX7_ringSeen_11 (by decide) (fun c3 => ?_) (fun c3 => ?_)
  · have h := ite_t c3 h
    refine lv_aload_n hx hb dX7_ringSeen_16 rfl (lv_at hl 2 rfl) ?_
    refine gx_get (v := .ref (g.2.1 11)) (C := RX2) (T := TX2) (N := 2) hx hb hts mc_X2 hown hK hG (ga_10 g _) rfl 0 (by decide) hw0 rfl rfl dX7_ringSeen_17 ?_
    refine lv_iload_n hx hb dX7_ringSeen_20 rfl (lv_at hl 4 rfl) ?_
    obtain ⟨hg4, h⟩ := gd_some h
    refine gx_iald (f := (σ.2.2.1 11)) hx hb hK hG (ga_11 g _) hg4 dX7_ringSeen_21 ?_
    refine lv_aload_n hx hb dX7_ringSeen_22 rfl (lv_at hl 1 rfl) ?_
    refine lv_iload_n hx hb dX7_ringSeen_23 rfl (lv_at hl 3 rfl) ?_
    refine lv_iload hx hb dX7_ringSeen_24 (lv_at hl 0 rfl) ?_
    refine lv_iconst (v := (1 : Int32)) hx hb dX7_ringSeen_26 (by decide) ?_
    refine lv_isub hx hb dX7_ringSeen_27 ?_
    obtain ⟨z5, hc6, h⟩ := bnd_some h
    refine gx_cV (σ' := σ) (r := (some (.int z5))) (rest := [.int ((σ.2.2.1 11) (x3.toNatClampNeg))]) (As := [.int x2, .int (z1 - (1 : Int32))]) hS9 (c_Wy_postsAt l g σ x2 (z1 - (1 : Int32)) z5 hc6) rfl (cwV 2 hts (gz_V mw_3_61 mw_3_62 mw_3_63 mw_1_5 mw_3_64) rfl rfl rfl hdV_X7_postsAt ⟨Nat.le_of_ble_eq_true rfl, Nat.le_of_ble_eq_true rfl⟩) hK hG (ga_20 g _) rfl rfl rfl hl.1 rfl (Nat.le_of_ble_eq_true rfl) dX7_ringSeen_28 (fun H locs hG => ?_)
    refine W.eq (g2 := F0 m 31 ls [.int z5, .int ((σ.2.2.1 11) (x3.toNatClampNeg))]) rfl ?_
    refine lv_iand hx hb dX7_ringSeen_31 ?_
    obtain ⟨z7, hc8, h⟩ := bnd_some h
    refine gx_cS (σ' := σ) (r := (some (.int z7))) (rest := []) (As := [.int (((σ.2.2.1 11) (x3.toNatClampNeg)) &&& z5)]) hS9 (c_JI_bitCount l g σ (((σ.2.2.1 11) (x3.toNatClampNeg)) &&& z5) z7 hc8) rfl (va_cwS 1 hts (gz_S mw_3_65 mw_2_169 mw_1_12 mw_2_170) rfl rfl rfl hdS_J6_bitCount_0f7a4 ⟨Nat.le_of_ble_eq_true rfl, Nat.le_of_ble_eq_true rfl⟩) hK hG rfl hl.1 rfl (Nat.le_of_ble_eq_true rfl) dX7_ringSeen_32 (fun H locs hG => ?_)
    refine W.eq (g2 := F0 m 35 ls [.int z7]) rfl ?_
    refine lv_iconst (v := (1 : Int32)) hx hb dX7_ringSeen_35 (by decide) ?_
    refine lv_icmp_le (tgt := 44) hx hb dX7_ringSeen_36 (by decide) (fun c9 => ?_) (fun c9 => ?_)
    · have h := ite_t c9 h
      refine lv_aload_n hx hb dX7_ringSeen_44 rfl (lv_at hl 2 rfl) ?_
      refine gx_get (v := .ref (g.2.1 11)) (C := RX2) (T := TX2) (N := 2) hx hb hts mc_X2 hown hK hG (ga_10 g _) rfl 0 (by decide) hw0 rfl rfl dX7_ringSeen_45 ?_
      refine lv_iload_n hx hb dX7_ringSeen_48 rfl (lv_at hl 4 rfl) ?_
      refine gx_iald (f := (σ.2.2.1 11)) hx hb hK hG (ga_11 g _) hg4 dX7_ringSeen_49 ?_
      refine lv_aload_n hx hb dX7_ringSeen_50 rfl (lv_at hl 1 rfl) ?_
      refine lv_iload_n hx hb dX7_ringSeen_51 rfl (lv_at hl 3 rfl) ?_
      refine lv_iload hx hb dX7_ringSeen_52 (lv_at hl 0 rfl) ?_
      obtain ⟨z10, hc11, h⟩ := bnd_some h
      refine gx_cV (σ' := σ) (r := (some (.int z10))) (rest := [.int ((σ.2.2.1 11) (x3.toNatClampNeg))]) (As := [.int x2, .int z1]) hS9 (c_Wy_postsAt l g σ x2 z1 z10 hc11) rfl (cwV 2 hts (gz_V mw_3_61 mw_3_62 mw_3_63 mw_1_5 mw_3_64) rfl rfl rfl hdV_X7_postsAt ⟨Nat.le_of_ble_eq_true rfl, Nat.le_of_ble_eq_true rfl⟩) hK hG (ga_20 g _) rfl rfl rfl hl.1 rfl (Nat.le_of_ble_eq_true rfl) dX7_ringSeen_54 (fun H locs hG => ?_)
      refine W.eq (g2 := F0 m 57 ls [.int z10, .int ((σ.2.2.1 11) (x3.toNatClampNeg))]) rfl ?_
      refine lv_iand hx hb dX7_ringSeen_57 ?_
      refine lv_if_eq (tgt := 70) hx hb dX7_ringSeen_58 (by decide) (fun c12 => ?_) (fun c12 => ?_)
      · have h := ite_t c12 h
        refine lv_iconst (v := (0 : Int32)) hx hb dX7_ringSeen_70 (by decide) ?_
        exact n71 (0 : Int32) _ _ _ (lv_sub hl [] rfl) hG h
      · have h := ite_f c12 h
        refine lv_iconst (v := (2 : Int32)) hx hb dX7_ringSeen_61 (by decide) ?_
        refine lv_iload hx hb dX7_ringSeen_62 (lv_at hl 0 rfl) ?_
        refine lv_imul hx hb dX7_ringSeen_64 ?_
        refine lv_iconst (v := (1 : Int32)) hx hb dX7_ringSeen_65 (by decide) ?_
        refine lv_iadd hx hb dX7_ringSeen_66 ?_
        refine lv_goto (tgt := 71) hx hb dX7_ringSeen_67 (by decide) ?_
        exact n71 (((2 : Int32) * z1) + (1 : Int32)) _ _ _ (lv_sub hl [] rfl) hG h
    · have h := ite_f c9 h
      refine lv_iconst (v := (2 : Int32)) hx hb dX7_ringSeen_39 (by decide) ?_
      refine lv_iload hx hb dX7_ringSeen_40 (lv_at hl 0 rfl) ?_
      refine lv_imul hx hb dX7_ringSeen_42 ?_
      cases h
      exact gx_iret hx hb hr hlocks hG dX7_ringSeen_43
  · have h := ite_f c3 h
    refine lv_iconst (v := (0 : Int32)) hx hb dX7_ringSeen_14 (by decide) ?_
    cases h
    exact gx_iret hx hb hr hlocks hG dX7_ringSeen_15

set_option maxHeartbeats 4000000 in
set_option maxRecDepth 100000 in
theorem c_Wy_shortestRing (l : Launch) (g : GC) (σ : St) (r : Int32) (h : Wy_shortestRing (σ.1 1285) (σ.2.2.1 22) (σ.2.2.1 11) (σ.2.2.1 21) = some r) : Cn l g yX7_shortestRing (Cond.code yX7_shortestRing cX7_shortestRing 6 (some .int) :: wG) 2 46 [.ref (g.2.1 20), .ref (g.2.1 10)] σ (some (.int r)) σ := by
  unfold Cn
  refine Met.ofW (cc := cX7_shortestRing) (maxL := 6) (ret := (some .int)) (by decide) rfl ?_
  intro p e s m args below meth c s₁ B hml hv
  obtain ⟨hargs, hP0, hK⟩ := hv
  have hx := B.exec
  have hb := B.bytes
  have hr := B.returns
  have hts : ∀ w ∈ wG, w.before args s = true := fun w h => atoms_spec (ws := (Cond.code yX7_shortestRing cX7_shortestRing 6 (some .int) :: wG)) B.pre w (List.mem_cons_of_mem _ h)
  have hown : s.vm.findClass RX7 = some m.cls := findClass_of_methodNamed B.named
  have hlocks := B.notSynchronized
  have hS9 : CallFix p m c cX7_shortestRing 6 s args wG RX7 := ⟨hx, hb, hml, hown, hts⟩
  have hw0 := hts _ mw_1_91
  have hf9 : entryFrame m args 6 = _ := (congrArg (fun a => entryFrame m a 6) hargs).trans (lg_entry_eq m [.ref (g.2.1 20), .ref (g.2.1 10)] 6)
  show Wg p l e 2 46 s m args below meth c g (some (.int r)) σ s.heap [] (entryFrame m args 6)
  rw [hf9]
  have hl := lv_entry ([.ref (g.2.1 20), .ref (g.2.1 10)]) (n := 6) (Nat.le_of_ble_eq_true rfl)
  generalize (lg_sl ([.ref (g.2.1 20), .ref (g.2.1 10)]) ++ List.replicate (6 - (lg_sl ([.ref (g.2.1 20), .ref (g.2.1 10)])).length) Slot.unset).toArray = ls at hl ⊢
  have hl : lv_has ls 6 [(0, .ref (g.2.1 20)), (1, .ref (g.2.1 10))] := hl
  have hG : GW g s σ s.heap [] := ⟨hP0, va_S.rf⟩
  unfold Wy_shortestRing at h
  have n52 : ∀ (k15 : Int32 → Int32 → Int32 → Option (Int32)) (hk15 : ∀ (x2 : Int32) (x3 : Int32) (x4 : Int32) (H : Heap) (locs : List Loc) (ls : Array Slot), lv_has ls 6 [(0, .ref (g.2.1 20)), (1, .ref (g.2.1 10)), (2, .int x2), (3, .int x3), (4, .int x4)] → GW g s σ H locs → k15 x2 x3 x4 = some r → Wg p l e 2 46 s m args below meth c g (some (.int r)) σ H locs (F0 m 15 ls [])) (x2 : Int32) (x3 : Int32) (x4 : Int32) (H : Heap) (locs : List Loc) (ls : Array Slot), lv_has ls 6 [(0, .ref (g.2.1 20)), (1, .ref (g.2.1 10)), (2, .int x2), (3, .int x3), (4, .int x4)] → GW g s σ H locs → Wy_shortestRing_n52 k15 x2 x3 x4 = some r → Wg p l e 2 46 s m args below meth c g (some (.int r)) σ H locs (F0 m 52 ls []) := by
    intro k15 hk15 x2 x3 x4 H locs ls hl hG h
    unfold Wy_shortestRing_n52 at h
    refine lv_iinc (v := (x4 + (1 : Int32))) (lv' := [(4, .int (x4 + (1 : Int32))), (0, .ref (g.2.1 20)), (1, .ref (g.2.1 10)), (2, .int x2), (3, .int x3)]) hx hb dX7_shortestRing_52 hl (k := 4) rfl (congrArg (fun z => x4 + z) (by decide)) (Nat.le_of_ble_eq_true rfl) rfl (fun ls hl => ?_)
    refine lv_goto (tgt := 15) hx hb dX7_shortestRing_55 (by decide) ?_
    exact hk15 x2 x3 (x4 + (1 : Int32)) _ _ _ (lv_sub hl [1, 2, 3, 4, 0] rfl) hG h
  have n49 : ∀ (k15 : Int32 → Int32 → Int32 → Option (Int32)) (hk15 : ∀ (x2 : Int32) (x3 : Int32) (x4 : Int32) (H : Heap) (locs : List Loc) (ls : Array Slot), lv_has ls 6 [(0, .ref (g.2.1 20)), (1, .ref (g.2.1 10)), (2, .int x2), (3, .int x3), (4, .int x4)] → GW g s σ H locs → k15 x2 x3 x4 = some r → Wg p l e 2 46 s m args below meth c g (some (.int r)) σ H locs (F0 m 15 ls [])) (x3 : Int32) (x4 : Int32) (x5 : Int32) (H : Heap) (locs : List Loc) (ls : Array Slot), lv_has ls 6 [(0, .ref (g.2.1 20)), (1, .ref (g.2.1 10)), (3, .int x3), (4, .int x4), (5, .int x5)] → GW g s σ H locs → Wy_shortestRing_n49 k15 x3 x4 x5 = some r → Wg p l e 2 46 s m args below meth c g (some (.int r)) σ H locs (F0 m 49 ls []) := by
    intro k15 hk15 x3 x4 x5 H locs ls hl hG h
    unfold Wy_shortestRing_n49 at h
    refine lv_iload hx hb dX7_shortestRing_49 (lv_at hl 4 rfl) ?_
    refine lv_istore_n (lv' := [(2, .int x5), (0, .ref (g.2.1 20)), (1, .ref (g.2.1 10)), (3, .int x3), (4, .int x4), (5, .int x5)]) hx hb dX7_shortestRing_51 rfl hl (Nat.le_of_ble_eq_true rfl) rfl (fun ls hl => ?_)
    exact n52 k15 hk15 x5 x3 x4 _ _ _ (lv_sub hl [1, 2, 0, 3, 4] rfl) hG h
  have n58 : ∀ (k4 : Int32 → Int32 → Option (Int32)) (hk4 : ∀ (x2 : Int32) (x3 : Int32) (H : Heap) (locs : List Loc) (ls : Array Slot), lv_has ls 6 [(0, .ref (g.2.1 20)), (1, .ref (g.2.1 10)), (2, .int x2), (3, .int x3)] → GW g s σ H locs → k4 x2 x3 = some r → Wg p l e 2 46 s m args below meth c g (some (.int r)) σ H locs (F0 m 4 ls [])) (x2 : Int32) (x3 : Int32) (H : Heap) (locs : List Loc) (ls : Array Slot), lv_has ls 6 [(0, .ref (g.2.1 20)), (1, .ref (g.2.1 10)), (2, .int x2), (3, .int x3)] → GW g s σ H locs → Wy_shortestRing_n58 k4 x2 x3 = some r → Wg p l e 2 46 s m args below meth c g (some (.int r)) σ H locs (F0 m 58 ls []) := by
    intro k4 hk4 x2 x3 H locs ls hl hG h
    unfold Wy_shortestRing_n58 at h
    refine lv_iinc (v := (x3 + (1 : Int32))) (lv' := [(3, .int (x3 + (1 : Int32))), (0, .ref (g.2.1 20)), (1, .ref (g.2.1 10)), (2, .int x2)]) hx hb dX7_shortestRing_58 hl (k := 3) rfl (congrArg (fun z => x3 + z) (by decide)) (Nat.le_of_ble_eq_true rfl) rfl (fun ls hl => ?_)
    refine lv_goto (tgt := 4) hx hb dX7_shortestRing_61 (by decide) ?_
    exact hk4 x2 (x3 + (1 : Int32)) _ _ _ (lv_sub hl [1, 2, 3, 0] rfl) hG h
  have n15 : ∀ (k4 : Int32 → Int32 → Option (Int32)) (hk4 : ∀ (x2 : Int32) (x3 : Int32) (H : Heap) (locs : List Loc) (ls : Array Slot), lv_has ls 6 [(0, .ref (g.2.1 20)), (1, .ref (g.2.1 10)), (2, .int x2), (3, .int x3)] → GW g s σ H locs → k4 x2 x3 = some r → Wg p l e 2 46 s m args below meth c g (some (.int r)) σ H locs (F0 m 4 ls [])) (k15 : Int32 → Int32 → Int32 → Option (Int32)) (hk15 : ∀ (x2 : Int32) (x3 : Int32) (x4 : Int32) (H : Heap) (locs : List Loc) (ls : Array Slot), lv_has ls 6 [(0, .ref (g.2.1 20)), (1, .ref (g.2.1 10)), (2, .int x2), (3, .int x3), (4, .int x4)] → GW g s σ H locs → k15 x2 x3 x4 = some r → Wg p l e 2 46 s m args below meth c g (some (.int r)) σ H locs (F0 m 15 ls [])) (x2 : Int32) (x3 : Int32) (x4 : Int32) (H : Heap) (locs : List Loc) (ls : Array Slot), lv_has ls 6 [(0, .ref (g.2.1 20)), (1, .ref (g.2.1 10)), (2, .int x2), (3, .int x3), (4, .int x4)] → GW g s σ H locs → Wy_shortestRing_n15 k4 k15 (σ.1 1285) (σ.2.2.1 22) (σ.2.2.1 11) (σ.2.2.1 21) x2 x3 x4 = some r → Wg p l e 2 46 s m args below meth c g (some (.int r)) σ H locs (F0 m 15 ls []) := by
    intro k4 hk4 k15 hk15 x2 x3 x4 H locs ls hl hG h
    unfold Wy_shortestRing_n15 at h
    refine lv_iload hx hb dX7_shortestRing_15 (lv_at hl 4 rfl) ?_
    refine lv_aload_n hx hb dX7_shortestRing_17 rfl (lv_at hl 0 rfl) ?_
    refine gx_get (v := .int (σ.1 1285)) (C := RX7) (T := TX7) (N := 7) hx hb hts mc_X7 hown hK hG (ga_20 g _) rfl 5 (by decide) hw0 rfl rfl dX7_shortestRing_18 ?_
    refine lv_icmp_ge (tgt := 58) hx hb dX7_shortestRing_21 (by decide) (fun c1 => ?_) (fun c1 => ?_)
    · have h := ite_t c1 h
      exact n58 k4 hk4 x2 x3 _ _ _ (lv_sub hl [0, 1, 2, 3] rfl) hG h
    · have h := ite_f c1 h
      refine lv_aload_n hx hb dX7_shortestRing_24 rfl (lv_at hl 0 rfl) ?_
      refine lv_aload_n hx hb dX7_shortestRing_25 rfl (lv_at hl 1 rfl) ?_
      refine lv_iload_n hx hb dX7_shortestRing_26 rfl (lv_at hl 3 rfl) ?_
      refine lv_iload hx hb dX7_shortestRing_27 (lv_at hl 4 rfl) ?_
      obtain ⟨z2, hc3, h⟩ := bnd_some h
      refine gx_cV (σ' := σ) (r := (some (.int z2))) (rest := []) (As := [.ref (g.2.1 10), .int x3, .int x4]) hS9 (c_Wy_ringSeen l g σ x3 x4 z2 hc3) rfl (cwV 3 hts (gz_V mw_3_56 mw_3_58 ms_1_9 mw_1_5 mw_3_59) rfl rfl rfl hdV_X7_ringSeen ⟨Nat.le_of_ble_eq_true rfl, Nat.le_of_ble_eq_true rfl⟩) hK hG (ga_20 g _) rfl rfl rfl hl.1 rfl (Nat.le_of_ble_eq_true rfl) dX7_shortestRing_29 (fun H locs hG => ?_)
      refine W.eq (g2 := F0 m 32 ls [.int z2]) rfl ?_
      refine lv_istore (lv' := [(5, .int z2), (0, .ref (g.2.1 20)), (1, .ref (g.2.1 10)), (2, .int x2), (3, .int x3), (4, .int x4)]) hx hb dX7_shortestRing_32 hl (Nat.le_of_ble_eq_true rfl) rfl (fun ls hl => ?_)
      refine lv_iload hx hb dX7_shortestRing_34 (lv_at hl 0 rfl) ?_
      refine lv_if_le (tgt := 52) hx hb dX7_shortestRing_36 (by decide) (fun c4 => ?_) (fun c4 => ?_)
      · have h := ite_t c4 h
        exact n52 k15 hk15 x2 x3 x4 _ _ _ (lv_sub hl [1, 2, 3, 4, 5] rfl) hG h
      · have h := ite_f c4 h
        refine lv_iload_n hx hb dX7_shortestRing_39 rfl (lv_at hl 3 rfl) ?_
        refine lv_if_eq (tgt := 49) hx hb dX7_shortestRing_40 (by decide) (fun c5 => ?_) (fun c5 => ?_)
        · have h := ite_t c5 h
          exact n49 k15 hk15 x3 x4 z2 _ _ _ (lv_sub hl [1, 2, 4, 5, 0] rfl) hG h
        · have h := ite_f c5 h
          refine lv_iload hx hb dX7_shortestRing_43 (lv_at hl 0 rfl) ?_
          refine lv_iload_n hx hb dX7_shortestRing_45 rfl (lv_at hl 3 rfl) ?_
          refine lv_icmp_ge (tgt := 52) hx hb dX7_shortestRing_46 (by decide) (fun c6 => ?_) (fun c6 => ?_)
          · have h := ite_t c6 h
            exact n52 k15 hk15 x2 x3 x4 _ _ _ (lv_sub hl [1, 2, 3, 4, 5] rfl) hG h
          · have h := ite_f c6 h
            exact n49 k15 hk15 x3 x4 z2 _ _ _ (lv_sub hl [1, 2, 4, 5, 0] rfl) hG h
  have l15 : ∀ (k4 : Int32 → Int32 → Option (Int32)) (hk4 : ∀ (x2 : Int32) (x3 : Int32) (H : Heap) (locs : List Loc) (ls : Array Slot), lv_has ls 6 [(0, .ref (g.2.1 20)), (1, .ref (g.2.1 10)), (2, .int x2), (3, .int x3)] → GW g s σ H locs → k4 x2 x3 = some r → Wg p l e 2 46 s m args below meth c g (some (.int r)) σ H locs (F0 m 4 ls [])) (F : Nat) (x2 : Int32) (x3 : Int32) (x4 : Int32) (H : Heap) (locs : List Loc) (ls : Array Slot), lv_has ls 6 [(0, .ref (g.2.1 20)), (1, .ref (g.2.1 10)), (2, .int x2), (3, .int x3), (4, .int x4)] → GW g s σ H locs → Wy_shortestRing_l15 k4 (σ.1 1285) (σ.2.2.1 22) (σ.2.2.1 11) (σ.2.2.1 21) F x2 x3 x4 = some r → Wg p l e 2 46 s m args below meth c g (some (.int r)) σ H locs (F0 m 15 ls []) := by
    intro k4 hk4 F
    induction F with
    | zero => intro x2 x3 x4 H locs ls hl hG h; exact no_some h
    | succ F ih => intro x2 x3 x4 H locs ls hl hG h; exact n15 k4 hk4 (fun x2 x3 x4 => Wy_shortestRing_l15 k4 (σ.1 1285) (σ.2.2.1 22) (σ.2.2.1 11) (σ.2.2.1 21) F x2 x3 x4) ih x2 x3 x4 H locs ls hl hG h
  have n64 : ∀ (x2 : Int32) (H : Heap) (locs : List Loc) (ls : Array Slot), lv_has ls 6 [(2, .int x2)] → GW g s σ H locs → Wy_shortestRing_n64 x2 = some r → Wg p l e 2 46 s m args below meth c g (some (.int r)) σ H locs (F0 m 64 ls []) := by
    intro x2 H locs ls hl hG h
    unfold Wy_shortestRing_n64 at h
    refine lv_iload_n hx hb dX7_shortestRing_64 rfl (lv_at hl 0 rfl) ?_
    cases h
    exact gx_iret hx hb hr hlocks hG dX7_shortestRing_65
  have n4 : ∀ (k4 : Int32 → Int32 → Option (Int32)) (hk4 : ∀ (x2 : Int32) (x3 : Int32) (H : Heap) (locs : List Loc) (ls : Array Slot), lv_has ls 6 [(0, .ref (g.2.1 20)), (1, .ref (g.2.1 10)), (2, .int x2), (3, .int x3)] → GW g s σ H locs → k4 x2 x3 = some r → Wg p l e 2 46 s m args below meth c g (some (.int r)) σ H locs (F0 m 4 ls [])) (x2 : Int32) (x3 : Int32) (H : Heap) (locs : List Loc) (ls : Array Slot), lv_has ls 6 [(0, .ref (g.2.1 20)), (1, .ref (g.2.1 10)), (2, .int x2), (3, .int x3)] → GW g s σ H locs → Wy_shortestRing_n4 k4 (σ.1 1285) (σ.2.2.1 22) (σ.2.2.1 11) (σ.2.2.1 21) x2 x3 = some r → Wg p l e 2 46 s m args below meth c g (some (.int r)) σ H locs (F0 m 4 ls []) := by
    intro k4 hk4 x2 x3 H locs ls hl hG h
    unfold Wy_shortestRing_n4 at h
    refine lv_iload_n hx hb dX7_shortestRing_4 rfl (lv_at hl 3 rfl) ?_
    refine lv_aload_n hx hb dX7_shortestRing_5 rfl (lv_at hl 0 rfl) ?_
    refine gx_get (v := .int (σ.1 1285)) (C := RX7) (T := TX7) (N := 7) hx hb hts mc_X7 hown hK hG (ga_20 g _) rfl 5 (by decide) hw0 rfl rfl dX7_shortestRing_6 ?_
    refine lv_icmp_ge (tgt := 64) hx hb dX7_shortestRing_9 (by decide) (fun c7 => ?_) (fun c7 => ?_)
    · have h := ite_t c7 h
      exact n64 x2 _ _ _ (lv_sub hl [2] rfl) hG h
    · have h := ite_f c7 h
      refine lv_iconst (v := (0 : Int32)) hx hb dX7_shortestRing_12 (by decide) ?_
      refine lv_istore (lv' := [(4, .int (0 : Int32)), (0, .ref (g.2.1 20)), (1, .ref (g.2.1 10)), (2, .int x2), (3, .int x3)]) hx hb dX7_shortestRing_13 hl (Nat.le_of_ble_eq_true rfl) rfl (fun ls hl => ?_)
      exact l15 k4 hk4 FUEL x2 x3 (0 : Int32) _ _ _ (lv_sub hl [1, 2, 3, 4, 0] rfl) hG h
  have l4 : ∀  (F : Nat) (x2 : Int32) (x3 : Int32) (H : Heap) (locs : List Loc) (ls : Array Slot), lv_has ls 6 [(0, .ref (g.2.1 20)), (1, .ref (g.2.1 10)), (2, .int x2), (3, .int x3)] → GW g s σ H locs → Wy_shortestRing_l4 (σ.1 1285) (σ.2.2.1 22) (σ.2.2.1 11) (σ.2.2.1 21) F x2 x3 = some r → Wg p l e 2 46 s m args below meth c g (some (.int r)) σ H locs (F0 m 4 ls []) := by
    intro F
    induction F with
    | zero => intro x2 x3 H locs ls hl hG h; exact no_some h
    | succ F ih => intro x2 x3 H locs ls hl hG h; exact n4 (fun x2 x3 => Wy_shortestRing_l4 (σ.1 1285) (σ.2.2.1 22) (σ.2.2.1 11) (σ.2.2.1 21) F x2 x3) ih x2 x3 H locs ls hl hG h
  refine lv_iconst (v := (0 : Int32)) hx hb dX7_shortestRing_0 (by decide) ?_
  refine lv_istore_n (lv' := [(2, .int (0 : Int32)), (0, .ref (g.2.1 20)), (1, .ref (g.2.1 10))]) hx hb dX7_shortestRing_1 rfl hl (Nat.le_of_ble_eq_true rfl) rfl (fun ls hl => ?_)
  refine lv_iconst (v := (0 : Int32)) hx hb dX7_shortestRing_2 (by decide) ?_
  refine lv_istore_n (lv' := [(3, .int (0 : Int32)), (2, .int (0 : Int32)), (0, .ref (g.2.1 20)), (1, .ref (g.2.1 10))]) hx hb dX7_shortestRing_3 rfl hl (Nat.le_of_ble_eq_true rfl) rfl (fun ls hl => ?_)
  exact l4 FUEL (0 : Int32) (0 : Int32) _ _ _ (lv_sub hl [2, 3, 1, 0] rfl) hG h

set_option maxHeartbeats 4000000 in
set_option maxRecDepth 100000 in
theorem c_Wy_pieces (l : Launch) (g : GC) (σ : St) (r : Int32) (h : Wy_pieces (σ.1 1285) (σ.2.2.1 23) = some r) : Cn l g yX7_pieces (Cond.code yX7_pieces cX7_pieces 3 (some .int) :: wG) 2 40 [.ref (g.2.1 20)] σ (some (.int r)) σ := by
  unfold Cn
  refine Met.ofW (cc := cX7_pieces) (maxL := 3) (ret := (some .int)) (by decide) rfl ?_
  intro p e s m args below meth c s₁ B hml hv
  obtain ⟨hargs, hP0, hK⟩ := hv
  have hx := B.exec
  have hb := B.bytes
  have hr := B.returns
  have hts : ∀ w ∈ wG, w.before args s = true := fun w h => atoms_spec (ws := (Cond.code yX7_pieces cX7_pieces 3 (some .int) :: wG)) B.pre w (List.mem_cons_of_mem _ h)
  have hown : s.vm.findClass RX7 = some m.cls := findClass_of_methodNamed B.named
  have hlocks := B.notSynchronized
  have hS9 : CallFix p m c cX7_pieces 3 s args wG RX7 := ⟨hx, hb, hml, hown, hts⟩
  have hw0 := hts _ mw_1_91
  have hw1 := hts _ mw_1_85
  have hw2 := hts _ mw_1_1
  have hw3 := hts _ mw_3_46
  have hf9 : entryFrame m args 3 = _ := (congrArg (fun a => entryFrame m a 3) hargs).trans (lg_entry_eq m [.ref (g.2.1 20)] 3)
  show Wg p l e 2 40 s m args below meth c g (some (.int r)) σ s.heap [] (entryFrame m args 3)
  rw [hf9]
  have hl := lv_entry ([.ref (g.2.1 20)]) (n := 3) (Nat.le_of_ble_eq_true rfl)
  generalize (lg_sl ([.ref (g.2.1 20)]) ++ List.replicate (3 - (lg_sl ([.ref (g.2.1 20)])).length) Slot.unset).toArray = ls at hl ⊢
  have hl : lv_has ls 3 [(0, .ref (g.2.1 20))] := hl
  have hG : GW g s σ s.heap [] := ⟨hP0, va_S.rf⟩
  unfold Wy_pieces at h
  have n28 : ∀ (k4 : Int32 → Int32 → Option (Int32)) (hk4 : ∀ (x1 : Int32) (x2 : Int32) (H : Heap) (locs : List Loc) (ls : Array Slot), lv_has ls 3 [(0, .ref (g.2.1 20)), (1, .int x1), (2, .int x2)] → GW g s σ H locs → k4 x1 x2 = some r → Wg p l e 2 40 s m args below meth c g (some (.int r)) σ H locs (F0 m 4 ls [])) (x1 : Int32) (x2 : Int32) (H : Heap) (locs : List Loc) (ls : Array Slot), lv_has ls 3 [(0, .ref (g.2.1 20)), (1, .int x1), (2, .int x2)] → GW g s σ H locs → Wy_pieces_n28 k4 x1 x2 = some r → Wg p l e 2 40 s m args below meth c g (some (.int r)) σ H locs (F0 m 28 ls []) := by
    intro k4 hk4 x1 x2 H locs ls hl hG h
    unfold Wy_pieces_n28 at h
    refine lv_iinc (v := (x2 + (1 : Int32))) (lv' := [(2, .int (x2 + (1 : Int32))), (0, .ref (g.2.1 20)), (1, .int x1)]) hx hb dX7_pieces_28 hl (k := 2) rfl (congrArg (fun z => x2 + z) (by decide)) (Nat.le_of_ble_eq_true rfl) rfl (fun ls hl => ?_)
    refine lv_goto (tgt := 4) hx hb dX7_pieces_31 (by decide) ?_
    exact hk4 x1 (x2 + (1 : Int32)) _ _ _ (lv_sub hl [1, 2, 0] rfl) hG h
  have n34 : ∀ (x1 : Int32) (H : Heap) (locs : List Loc) (ls : Array Slot), lv_has ls 3 [(1, .int x1)] → GW g s σ H locs → Wy_pieces_n34 x1 = some r → Wg p l e 2 40 s m args below meth c g (some (.int r)) σ H locs (F0 m 34 ls []) := by
    intro x1 H locs ls hl hG h
    unfold Wy_pieces_n34 at h
    refine lv_iload_n hx hb dX7_pieces_34 rfl (lv_at hl 0 rfl) ?_
    cases h
    exact gx_iret hx hb hr hlocks hG dX7_pieces_35
  have n4 : ∀ (k4 : Int32 → Int32 → Option (Int32)) (hk4 : ∀ (x1 : Int32) (x2 : Int32) (H : Heap) (locs : List Loc) (ls : Array Slot), lv_has ls 3 [(0, .ref (g.2.1 20)), (1, .int x1), (2, .int x2)] → GW g s σ H locs → k4 x1 x2 = some r → Wg p l e 2 40 s m args below meth c g (some (.int r)) σ H locs (F0 m 4 ls [])) (x1 : Int32) (x2 : Int32) (H : Heap) (locs : List Loc) (ls : Array Slot), lv_has ls 3 [(0, .ref (g.2.1 20)), (1, .int x1), (2, .int x2)] → GW g s σ H locs → Wy_pieces_n4 k4 (σ.1 1285) (σ.2.2.1 23) x1 x2 = some r → Wg p l e 2 40 s m args below meth c g (some (.int r)) σ H locs (F0 m 4 ls []) := by
    intro k4 hk4 x1 x2 H locs ls hl hG h
    unfold Wy_pieces_n4 at h
    refine lv_iload_n hx hb dX7_pieces_4 rfl (lv_at hl 2 rfl) ?_
    refine lv_aload_n hx hb dX7_pieces_5 rfl (lv_at hl 0 rfl) ?_
    refine gx_get (v := .int (σ.1 1285)) (C := RX7) (T := TX7) (N := 7) hx hb hts mc_X7 hown hK hG (ga_20 g _) rfl 5 (by decide) hw0 rfl rfl dX7_pieces_6 ?_
    refine lv_icmp_ge (tgt := 34) hx hb dX7_pieces_9 (by decide) (fun c1 => ?_) (fun c1 => ?_)
    · have h := ite_t c1 h
      exact n34 x1 _ _ _ (lv_sub hl [1] rfl) hG h
    · have h := ite_f c1 h
      refine lv_aload_n hx hb dX7_pieces_12 rfl (lv_at hl 0 rfl) ?_
      refine gx_get (v := .ref (g.2.1 23)) (C := RX7) (T := TX7) (N := 7) hx hb hts mc_X7 hown hK hG (ga_20 g _) rfl 2 (by decide) hw1 rfl rfl dX7_pieces_13 ?_
      refine lv_iload_n hx hb dX7_pieces_16 rfl (lv_at hl 2 rfl) ?_
      obtain ⟨hg2, h⟩ := gd_some h
      refine gx_iald (f := (σ.2.2.1 23)) hx hb hK hG (ga_23 g _) hg2 dX7_pieces_17 ?_
      obtain ⟨z3, hc4, h⟩ := bnd_some h
      refine gx_cN (σ' := σ) (r := (some (.int z3))) (rest := []) (As := [.int ((σ.2.2.1 23) (x2.toNatClampNeg))]) hS9 (c_LN_lowestBit l g σ ((σ.2.2.1 23) (x2.toNatClampNeg)) z3 hc4) rfl (va_cnB 1 hts (gz_N mw_3_47) rfl rfl rfl (hK.2.2 _ (List.mem_of_getElem? (i := 6) rfl)) hw2 hdS_X8_lowestBit ⟨Nat.le_of_ble_eq_true rfl, Nat.le_of_ble_eq_true rfl⟩) hw3 hK hG rfl hl.1 rfl (Nat.le_of_ble_eq_true rfl) dX7_pieces_18 (fun H locs hG => ?_)
      refine W.eq (g2 := F0 m 21 ls [.int z3]) rfl ?_
      refine lv_iload_n hx hb dX7_pieces_21 rfl (lv_at hl 2 rfl) ?_
      refine lv_icmp_ne (tgt := 28) hx hb dX7_pieces_22 (by decide) (fun c5 => ?_) (fun c5 => ?_)
      · have h := ite_f c5 h
        exact n28 k4 hk4 x1 x2 _ _ _ (lv_sub hl [0, 1, 2] rfl) hG h
      · have h := ite_t c5 h
        refine lv_iinc (v := (x1 + (1 : Int32))) (lv' := [(1, .int (x1 + (1 : Int32))), (0, .ref (g.2.1 20)), (2, .int x2)]) hx hb dX7_pieces_25 hl (k := 1) rfl (congrArg (fun z => x1 + z) (by decide)) (Nat.le_of_ble_eq_true rfl) rfl (fun ls hl => ?_)
        exact n28 k4 hk4 (x1 + (1 : Int32)) x2 _ _ _ (lv_sub hl [1, 0, 2] rfl) hG h
  have l4 : ∀  (F : Nat) (x1 : Int32) (x2 : Int32) (H : Heap) (locs : List Loc) (ls : Array Slot), lv_has ls 3 [(0, .ref (g.2.1 20)), (1, .int x1), (2, .int x2)] → GW g s σ H locs → Wy_pieces_l4 (σ.1 1285) (σ.2.2.1 23) F x1 x2 = some r → Wg p l e 2 40 s m args below meth c g (some (.int r)) σ H locs (F0 m 4 ls []) := by
    intro F
    induction F with
    | zero => intro x1 x2 H locs ls hl hG h; exact no_some h
    | succ F ih => intro x1 x2 H locs ls hl hG h; exact n4 (fun x1 x2 => Wy_pieces_l4 (σ.1 1285) (σ.2.2.1 23) F x1 x2) ih x1 x2 H locs ls hl hG h
  refine lv_iconst (v := (0 : Int32)) hx hb dX7_pieces_0 (by decide) ?_
  refine lv_istore_n (lv' := [(1, .int (0 : Int32)), (0, .ref (g.2.1 20))]) hx hb dX7_pieces_1 rfl hl (Nat.le_of_ble_eq_true rfl) rfl (fun ls hl => ?_)
  refine lv_iconst (v := (0 : Int32)) hx hb dX7_pieces_2 (by decide) ?_
  refine lv_istore_n (lv' := [(2, .int (0 : Int32)), (1, .int (0 : Int32)), (0, .ref (g.2.1 20))]) hx hb dX7_pieces_3 rfl hl (Nat.le_of_ble_eq_true rfl) rfl (fun ls hl => ?_)
  exact l4 FUEL (0 : Int32) (0 : Int32) _ _ _ (lv_sub hl [2, 1, 0] rfl) hG h

