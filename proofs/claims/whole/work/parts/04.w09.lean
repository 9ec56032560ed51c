set_option maxHeartbeats 4000000 in
set_option maxRecDepth 100000 in
theorem c_M_load (l : Launch) (g : GC) (σ : St) (x1 : Int32) (x2 : Int32) (x3 : Int32) (r : Int32) (w_areKindsFound : Int32) (w_isMeasured : Int32) (w_road : Nat → Int32) (h : M_load x1 x2 x3 (σ.1 3238) (σ.1 3212) (σ.1 3203) (σ.2.2.1 53) (σ.2.2.1 54) (σ.2.2.1 52) = some (r, w_areKindsFound, w_isMeasured, w_road)) : Cn l g yX9_load (Cond.code yX9_load cX9_load 7 (some .int) :: wG) 2 46 [.ref (g.2.1 50), .int x1, .int x2, .int x3] σ (some (.int r)) (mkS σ [(3238, w_areKindsFound), (3212, w_isMeasured)] [] [(54, w_road)] []) := by
  unfold Cn
  refine Met.ofW (cc := cX9_load) (maxL := 7) (ret := (some .int)) (by decide) rfl ?_
  intro p e s m args below meth c s₁ B hml hv
  obtain ⟨hargs, hP0, hK⟩ := hv
  have hx := B.exec
  have hb := B.bytes
  have hr := B.returns
  have hts : ∀ w ∈ wG, w.before args s = true := fun w h => atoms_spec (ws := (Cond.code yX9_load cX9_load 7 (some .int) :: wG)) B.pre w (List.mem_cons_of_mem _ h)
  have hown : s.vm.findClass RX9 = some m.cls := findClass_of_methodNamed B.named
  have hlocks := B.notSynchronized
  have hS9 : CallFix p m c cX9_load 7 s args wG RX9 := ⟨hx, hb, hml, hown, hts⟩
  have hw0 := hts _ mw_4_141
  have hw1 := hts _ mw_4_140
  have hw2 := hts _ mw_5_44
  have hf9 : entryFrame m args 7 = _ := (congrArg (fun a => entryFrame m a 7) hargs).trans (lg_entry_eq m [.ref (g.2.1 50), .int x1, .int x2, .int x3] 7)
  show Wg p l e 2 46 s m args below meth c g (some (.int r)) (mkS σ [(3238, w_areKindsFound), (3212, w_isMeasured)] [] [(54, w_road)] []) s.heap [] (entryFrame m args 7)
  rw [hf9]
  have hl := lv_entry ([.ref (g.2.1 50), .int x1, .int x2, .int x3]) (n := 7) (Nat.le_of_ble_eq_true rfl)
  generalize (lg_sl ([.ref (g.2.1 50), .int x1, .int x2, .int x3]) ++ List.replicate (7 - (lg_sl ([.ref (g.2.1 50), .int x1, .int x2, .int x3])).length) Slot.unset).toArray = ls at hl ⊢
  have hl : lv_has ls 7 [(0, .ref (g.2.1 50)), (1, .int x1), (2, .int x2), (3, .int x3)] := hl
  have hG : GW g s σ s.heap [] := ⟨hP0, va_S.rf⟩
  have hG : GW g s (mkS σ [(3238, (σ.1 3238)), (3212, (σ.1 3212))] [] [(54, (σ.2.2.1 54))] []) s.heap [] := GW_self [3238, 3212] [] [54] [] hG
  unfold M_load at h
  have n49 : ∀ (v_areKindsFound : Int32) (v_isMeasured : Int32) (v_road : Nat → Int32) (H : Heap) (locs : List Loc) (ls : Array Slot), lv_has ls 7 [] → GW g s (mkS σ [(3238, v_areKindsFound), (3212, v_isMeasured)] [] [(54, v_road)] []) H locs → M_load_n49 v_areKindsFound v_isMeasured v_road = some (r, w_areKindsFound, w_isMeasured, w_road) → Wg p l e 2 46 s m args below meth c g (some (.int r)) (mkS σ [(3238, w_areKindsFound), (3212, w_isMeasured)] [] [(54, w_road)] []) H locs (F0 m 49 ls []) := by
    intro v_areKindsFound v_isMeasured v_road H locs ls hl hG h
    unfold M_load_n49 at h
    refine lv_iconst (v := (-1 : Int32)) hx hb dX9_load_49 (by decide) ?_
    cases h
    exact gx_iret hx hb hr hlocks hG dX9_load_50
  have n123 : ∀ (v_areKindsFound : Int32) (v_isMeasured : Int32) (v_road : Nat → Int32) (H : Heap) (locs : List Loc) (ls : Array Slot), lv_has ls 7 [] → GW g s (mkS σ [(3238, v_areKindsFound), (3212, v_isMeasured)] [] [(54, v_road)] []) H locs → M_load_n123 v_areKindsFound v_isMeasured v_road = some (r, w_areKindsFound, w_isMeasured, w_road) → Wg p l e 2 46 s m args below meth c g (some (.int r)) (mkS σ [(3238, w_areKindsFound), (3212, w_isMeasured)] [] [(54, w_road)] []) H locs (F0 m 123 ls []) := by
    intro v_areKindsFound v_isMeasured v_road H locs ls hl hG h
    unfold M_load_n123 at h
    refine lv_iconst (v := (-1 : Int32)) hx hb dX9_load_123 (by decide) ?_
    cases h
    exact gx_iret hx hb hr hlocks hG dX9_load_124
  have n192 : ∀ (k137 : Int32 → Int32 → Int32 → Int32 → Int32 → Int32 → Int32 → (Nat → Int32) → Option (Int32 × Int32 × Int32 × (Nat → Int32))) (hk137 : ∀ (x1 : Int32) (x2 : Int32) (x3 : Int32) (x4 : Int32) (x5 : Int32) (v_areKindsFound : Int32) (v_isMeasured : Int32) (v_road : Nat → Int32) (H : Heap) (locs : List Loc) (ls : Array Slot), lv_has ls 7 [(0, .ref (g.2.1 50)), (1, .int x1), (2, .int x2), (3, .int x3), (4, .int x4), (5, .int x5)] → GW g s (mkS σ [(3238, v_areKindsFound), (3212, v_isMeasured)] [] [(54, v_road)] []) H locs → k137 x1 x2 x3 x4 x5 v_areKindsFound v_isMeasured v_road = some (r, w_areKindsFound, w_isMeasured, w_road) → Wg p l e 2 46 s m args below meth c g (some (.int r)) (mkS σ [(3238, w_areKindsFound), (3212, w_isMeasured)] [] [(54, w_road)] []) H locs (F0 m 137 ls [])) (x1 : Int32) (x2 : Int32) (x3 : Int32) (x5 : Int32) (t0 : Int32) (t1 : Int32) (v_areKindsFound : Int32) (v_isMeasured : Int32) (v_road : Nat → Int32) (H : Heap) (locs : List Loc) (ls : Array Slot), lv_has ls 7 [(0, .ref (g.2.1 50)), (1, .int x1), (2, .int x2), (3, .int x3), (5, .int x5)] → GW g s (mkS σ [(3238, v_areKindsFound), (3212, v_isMeasured)] [] [(54, v_road)] []) H locs → M_load_n192 k137 x1 x2 x3 x5 t0 t1 v_areKindsFound v_isMeasured v_road = some (r, w_areKindsFound, w_isMeasured, w_road) → Wg p l e 2 46 s m args below meth c g (some (.int r)) (mkS σ [(3238, w_areKindsFound), (3212, w_isMeasured)] [] [(54, w_road)] []) H locs (F0 m 192 ls [.int t1, .int t0]) := by
    intro k137 hk137 x1 x2 x3 x5 t0 t1 v_areKindsFound v_isMeasured v_road H locs ls hl hG h
    unfold M_load_n192 at h
    refine lv_iadd hx hb dX9_load_192 ?_
    refine lv_istore (lv' := [(4, .int (t0 + t1)), (0, .ref (g.2.1 50)), (1, .int x1), (2, .int x2), (3, .int x3), (5, .int x5)]) hx hb dX9_load_193 hl (Nat.le_of_ble_eq_true rfl) rfl (fun ls hl => ?_)
    refine lv_iinc (v := (x5 + (1 : Int32))) (lv' := [(5, .int (x5 + (1 : Int32))), (4, .int (t0 + t1)), (0, .ref (g.2.1 50)), (1, .int x1), (2, .int x2), (3, .int x3)]) hx hb dX9_load_195 hl (k := 5) rfl (congrArg (fun z => x5 + z) (by decide)) (Nat.le_of_ble_eq_true rfl) rfl (fun ls hl => ?_)
    refine lv_goto (tgt := 137) hx hb dX9_load_198 (by decide) ?_
    exact hk137 x1 x2 x3 (t0 + t1) (x5 + (1 : Int32)) v_areKindsFound v_isMeasured v_road _ _ _ (lv_sub hl [2, 3, 4, 5, 1, 0] rfl) hG h
  have n201 : ∀ (x4 : Int32) (v_areKindsFound : Int32) (v_isMeasured : Int32) (v_road : Nat → Int32) (H : Heap) (locs : List Loc) (ls : Array Slot), lv_has ls 7 [(4, .int x4)] → GW g s (mkS σ [(3238, v_areKindsFound), (3212, v_isMeasured)] [] [(54, v_road)] []) H locs → M_load_n201 x4 v_areKindsFound v_isMeasured v_road = some (r, w_areKindsFound, w_isMeasured, w_road) → Wg p l e 2 46 s m args below meth c g (some (.int r)) (mkS σ [(3238, w_areKindsFound), (3212, w_isMeasured)] [] [(54, w_road)] []) H locs (F0 m 201 ls []) := by
    intro x4 v_areKindsFound v_isMeasured v_road H locs ls hl hG h
    unfold M_load_n201 at h
    refine lv_iload hx hb dX9_load_201 (lv_at hl 0 rfl) ?_
    cases h
    exact gx_iret hx hb hr hlocks hG dX9_load_203
  have n137 : ∀ (k137 : Int32 → Int32 → Int32 → Int32 → Int32 → Int32 → Int32 → (Nat → Int32) → Option (Int32 × Int32 × Int32 × (Nat → Int32))) (hk137 : ∀ (x1 : Int32) (x2 : Int32) (x3 : Int32) (x4 : Int32) (x5 : Int32) (v_areKindsFound : Int32) (v_isMeasured : Int32) (v_road : Nat → Int32) (H : Heap) (locs : List Loc) (ls : Array Slot), lv_has ls 7 [(0, .ref (g.2.1 50)), (1, .int x1), (2, .int x2), (3, .int x3), (4, .int x4), (5, .int x5)] → GW g s (mkS σ [(3238, v_areKindsFound), (3212, v_isMeasured)] [] [(54, v_road)] []) H locs → k137 x1 x2 x3 x4 x5 v_areKindsFound v_isMeasured v_road = some (r, w_areKindsFound, w_isMeasured, w_road) → Wg p l e 2 46 s m args below meth c g (some (.int r)) (mkS σ [(3238, w_areKindsFound), (3212, w_isMeasured)] [] [(54, w_road)] []) H locs (F0 m 137 ls [])) (x1 : Int32) (x2 : Int32) (x3 : Int32) (x4 : Int32) (x5 : Int32) (v_areKindsFound : Int32) (v_isMeasured : Int32) (v_road : Nat → Int32) (H : Heap) (locs : List Loc) (ls : Array Slot), lv_has ls 7 [(0, .ref (g.2.1 50)), (1, .int x1), (2, .int x2), (3, .int x3), (4, .int x4), (5, .int x5)] → GW g s (mkS σ [(3238, v_areKindsFound), (3212, v_isMeasured)] [] [(54, v_road)] []) H locs → M_load_n137 k137 (σ.2.2.1 53) x1 x2 x3 x4 x5 v_areKindsFound v_isMeasured v_road = some (r, w_areKindsFound, w_isMeasured, w_road) → Wg p l e 2 46 s m args below meth c g (some (.int r)) (mkS σ [(3238, w_areKindsFound), (3212, w_isMeasured)] [] [(54, w_road)] []) H locs (F0 m 137 ls []) := by
    intro k137 hk137 x1 x2 x3 x4 x5 v_areKindsFound v_isMeasured v_road H locs ls hl hG h
    unfold M_load_n137 at h
    refine lv_iload hx hb dX9_load_137 (lv_at hl 5 rfl) ?_
    refine lv_iload_n hx hb dX9_load_139 rfl (lv_at hl 3 rfl) ?_
    refine lv_icmp_ge (tgt := 201) hx hb dX9_load_140 (by decide) (fun c1 => ?_) (fun c1 => ?_)
    · have h := ite_t c1 h
      exact n201 x4 v_areKindsFound v_isMeasured v_road _ _ _ (lv_sub hl [4] rfl) hG h
    · have h := ite_f c1 h
      refine lv_iload hx hb dX9_load_143 (lv_at hl 4 rfl) ?_
      refine lv_aload_n hx hb dX9_load_145 rfl (lv_at hl 0 rfl) ?_
      refine lv_aload_n hx hb dX9_load_146 rfl (lv_at hl 0 rfl) ?_
      refine gx_get (v := .ref (g.2.1 53)) (C := RX9) (T := TX9) (N := 44) hx hb hts mc_X9 hown hK hG (ga_50 g _) rfl 2 (by decide) hw0 rfl rfl dX9_load_147 ?_
      refine lv_bipush (v := (60 : Int32)) hx hb dX9_load_150 (by decide) ?_
      refine lv_iload_n hx hb dX9_load_152 rfl (lv_at hl 1 rfl) ?_
      refine lv_imul hx hb dX9_load_153 ?_
      refine lv_iload_n hx hb dX9_load_154 rfl (lv_at hl 2 rfl) ?_
      refine lv_iadd hx hb dX9_load_155 ?_
      refine lv_iconst (v := (2 : Int32)) hx hb dX9_load_156 (by decide) ?_
      refine lv_iload hx hb dX9_load_157 (lv_at hl 5 rfl) ?_
      refine lv_imul hx hb dX9_load_159 ?_
      refine lv_iadd hx hb dX9_load_160 ?_
      obtain ⟨hg2, h⟩ := gd_some h
      refine gx_iald (f := (σ.2.2.1 53)) hx hb hK hG (ga_53 g _) hg2 dX9_load_161 ?_
      refine lv_aload_n hx hb dX9_load_162 rfl (lv_at hl 0 rfl) ?_
      refine gx_get (v := .ref (g.2.1 53)) (C := RX9) (T := TX9) (N := 44) hx hb hts mc_X9 hown hK hG (ga_50 g _) rfl 2 (by decide) hw0 rfl rfl dX9_load_163 ?_
      refine lv_bipush (v := (60 : Int32)) hx hb dX9_load_166 (by decide) ?_
      refine lv_iload_n hx hb dX9_load_168 rfl (lv_at hl 1 rfl) ?_
      refine lv_imul hx hb dX9_load_169 ?_
      refine lv_iload_n hx hb dX9_load_170 rfl (lv_at hl 2 rfl) ?_
      refine lv_iadd hx hb dX9_load_171 ?_
      refine lv_iconst (v := (2 : Int32)) hx hb dX9_load_172 (by decide) ?_
      refine lv_iload hx hb dX9_load_173 (lv_at hl 5 rfl) ?_
      refine lv_imul hx hb dX9_load_175 ?_
      refine lv_iadd hx hb dX9_load_176 ?_
      refine lv_iconst (v := (1 : Int32)) hx hb dX9_load_177 (by decide) ?_
      refine lv_iadd hx hb dX9_load_178 ?_
      obtain ⟨hg3, h⟩ := gd_some h
      refine gx_iald (f := (σ.2.2.1 53)) hx hb hK hG (ga_53 g _) hg3 dX9_load_179 ?_
      refine lv_iconst (v := (1 : Int32)) hx hb dX9_load_180 (by decide) ?_
      obtain ⟨z4, hc5, h⟩ := bnd_some h
      refine gx_cV (σ' := (mkS σ [(3238, z4.2.1), (3212, z4.2.2.1)] [] [(54, z4.2.2.2)] [])) (r := (some (.int z4.1))) (rest := [.int x4]) (As := [.int ((σ.2.2.1 53) (((((60 : Int32) * x1) + x2) + ((2 : Int32) * x5)).toNatClampNeg)), .int ((σ.2.2.1 53) ((((((60 : Int32) * x1) + x2) + ((2 : Int32) * x5)) + (1 : Int32)).toNatClampNeg)), .int (1 : Int32)]) hS9 (c_M_lay l g (mkS σ [(3238, v_areKindsFound), (3212, v_isMeasured)] [] [(54, v_road)] []) ((σ.2.2.1 53) (((((60 : Int32) * x1) + x2) + ((2 : Int32) * x5)).toNatClampNeg)) ((σ.2.2.1 53) ((((((60 : Int32) * x1) + x2) + ((2 : Int32) * x5)) + (1 : Int32)).toNatClampNeg)) (1 : Int32) z4.1 z4.2.1 z4.2.2.1 z4.2.2.2 hc5) (mk_mk rfl rfl rfl rfl) (cwV 3 hts (gz_V mw_5_70 mw_5_72 ms_3_6 mw_1_11 mw_5_73) rfl rfl rfl hdV_X9_lay ⟨Nat.le_of_ble_eq_true rfl, Nat.le_of_ble_eq_true rfl⟩) hK hG (ga_50 g _) rfl rfl rfl hl.1 rfl (Nat.le_of_ble_eq_true rfl) dX9_load_181 (fun H locs hG => ?_)
      refine W.eq (g2 := F0 m 184 ls [.int z4.1, .int x4]) rfl ?_
      refine lv_if_eq (tgt := 191) hx hb dX9_load_184 (by decide) (fun c6 => ?_) (fun c6 => ?_)
      · have h := ite_t c6 h
        refine lv_iconst (v := (0 : Int32)) hx hb dX9_load_191 (by decide) ?_
        exact n192 k137 hk137 x1 x2 x3 x5 x4 (0 : Int32) z4.2.1 z4.2.2.1 z4.2.2.2 _ _ _ (lv_sub hl [0, 1, 2, 3, 5] rfl) hG h
      · have h := ite_f c6 h
        refine lv_iconst (v := (1 : Int32)) hx hb dX9_load_187 (by decide) ?_
        refine lv_goto (tgt := 192) hx hb dX9_load_188 (by decide) ?_
        exact n192 k137 hk137 x1 x2 x3 x5 x4 (1 : Int32) z4.2.1 z4.2.2.1 z4.2.2.2 _ _ _ (lv_sub hl [0, 1, 2, 3, 5] rfl) hG h
  have l137 : ∀  (F : Nat) (x1 : Int32) (x2 : Int32) (x3 : Int32) (x4 : Int32) (x5 : Int32) (v_areKindsFound : Int32) (v_isMeasured : Int32) (v_road : Nat → Int32) (H : Heap) (locs : List Loc) (ls : Array Slot), lv_has ls 7 [(0, .ref (g.2.1 50)), (1, .int x1), (2, .int x2), (3, .int x3), (4, .int x4), (5, .int x5)] → GW g s (mkS σ [(3238, v_areKindsFound), (3212, v_isMeasured)] [] [(54, v_road)] []) H locs → M_load_l137 (σ.2.2.1 53) F x1 x2 x3 x4 x5 v_areKindsFound v_isMeasured v_road = some (r, w_areKindsFound, w_isMeasured, w_road) → Wg p l e 2 46 s m args below meth c g (some (.int r)) (mkS σ [(3238, w_areKindsFound), (3212, w_isMeasured)] [] [(54, w_road)] []) H locs (F0 m 137 ls []) := by
    intro F
    induction F with
    | zero => intro x1 x2 x3 x4 x5 v_areKindsFound v_isMeasured v_road H locs ls hl hG h; exact no_some h
    | succ F ih => intro x1 x2 x3 x4 x5 v_areKindsFound v_isMeasured v_road H locs ls hl hG h; exact n137 (fun x1 x2 x3 x4 x5 v_areKindsFound v_isMeasured v_road => M_load_l137 (σ.2.2.1 53) F x1 x2 x3 x4 x5 v_areKindsFound v_isMeasured v_road) ih x1 x2 x3 x4 x5 v_areKindsFound v_isMeasured v_road H locs ls hl hG h
  have n131 : ∀ (x1 : Int32) (x2 : Int32) (x3 : Int32) (v_areKindsFound : Int32) (v_isMeasured : Int32) (v_road : Nat → Int32) (H : Heap) (locs : List Loc) (ls : Array Slot), lv_has ls 7 [(0, .ref (g.2.1 50)), (1, .int x1), (2, .int x2), (3, .int x3)] → GW g s (mkS σ [(3238, v_areKindsFound), (3212, v_isMeasured)] [] [(54, v_road)] []) H locs → M_load_n131 (σ.2.2.1 53) x1 x2 x3 v_areKindsFound v_isMeasured v_road = some (r, w_areKindsFound, w_isMeasured, w_road) → Wg p l e 2 46 s m args below meth c g (some (.int r)) (mkS σ [(3238, w_areKindsFound), (3212, w_isMeasured)] [] [(54, w_road)] []) H locs (F0 m 131 ls []) := by
    intro x1 x2 x3 v_areKindsFound v_isMeasured v_road H locs ls hl hG h
    unfold M_load_n131 at h
    refine lv_iconst (v := (0 : Int32)) hx hb dX9_load_131 (by decide) ?_
    refine lv_istore (lv' := [(4, .int (0 : Int32)), (0, .ref (g.2.1 50)), (1, .int x1), (2, .int x2), (3, .int x3)]) hx hb dX9_load_132 hl (Nat.le_of_ble_eq_true rfl) rfl (fun ls hl => ?_)
    refine lv_iconst (v := (0 : Int32)) hx hb dX9_load_134 (by decide) ?_
    refine lv_istore (lv' := [(5, .int (0 : Int32)), (4, .int (0 : Int32)), (0, .ref (g.2.1 50)), (1, .int x1), (2, .int x2), (3, .int x3)]) hx hb dX9_load_135 hl (Nat.le_of_ble_eq_true rfl) rfl (fun ls hl => ?_)
    exact l137 FUEL x1 x2 x3 (0 : Int32) (0 : Int32) v_areKindsFound v_isMeasured v_road _ _ _ (lv_sub hl [2, 3, 4, 5, 1, 0] rfl) hG h
  have n54 : ∀ (k54 : Int32 → Int32 → Int32 → Int32 → Int32 → Int32 → (Nat → Int32) → Option (Int32 × Int32 × Int32 × (Nat → Int32))) (hk54 : ∀ (x1 : Int32) (x2 : Int32) (x3 : Int32) (x4 : Int32) (v_areKindsFound : Int32) (v_isMeasured : Int32) (v_road : Nat → Int32) (H : Heap) (locs : List Loc) (ls : Array Slot), lv_has ls 7 [(0, .ref (g.2.1 50)), (1, .int x1), (2, .int x2), (3, .int x3), (4, .int x4)] → GW g s (mkS σ [(3238, v_areKindsFound), (3212, v_isMeasured)] [] [(54, v_road)] []) H locs → k54 x1 x2 x3 x4 v_areKindsFound v_isMeasured v_road = some (r, w_areKindsFound, w_isMeasured, w_road) → Wg p l e 2 46 s m args below meth c g (some (.int r)) (mkS σ [(3238, w_areKindsFound), (3212, w_isMeasured)] [] [(54, w_road)] []) H locs (F0 m 54 ls [])) (x1 : Int32) (x2 : Int32) (x3 : Int32) (x4 : Int32) (v_areKindsFound : Int32) (v_isMeasured : Int32) (v_road : Nat → Int32) (H : Heap) (locs : List Loc) (ls : Array Slot), lv_has ls 7 [(0, .ref (g.2.1 50)), (1, .int x1), (2, .int x2), (3, .int x3), (4, .int x4)] → GW g s (mkS σ [(3238, v_areKindsFound), (3212, v_isMeasured)] [] [(54, v_road)] []) H locs → M_load_n54 k54 (σ.1 3203) (σ.2.2.1 53) x1 x2 x3 x4 v_areKindsFound v_isMeasured v_road = some (r, w_areKindsFound, w_isMeasured, w_road) → Wg p l e 2 46 s m args below meth c g (some (.int r)) (mkS σ [(3238, w_areKindsFound), (3212, w_isMeasured)] [] [(54, w_road)] []) H locs (F0 m 54 ls []) := by
    intro k54 hk54 x1 x2 x3 x4 v_areKindsFound v_isMeasured v_road H locs ls hl hG h
    unfold M_load_n54 at h
    refine lv_iload hx hb dX9_load_54 (lv_at hl 4 rfl) ?_
    refine lv_iload_n hx hb dX9_load_56 rfl (lv_at hl 3 rfl) ?_
    refine lv_icmp_ge (tgt := 131) hx hb dX9_load_57 (by decide) (fun c7 => ?_) (fun c7 => ?_)
    · have h := ite_t c7 h
      exact n131 x1 x2 x3 v_areKindsFound v_isMeasured v_road _ _ _ (lv_sub hl [0, 1, 2, 3] rfl) hG h
    · have h := ite_f c7 h
      refine lv_aload_n hx hb dX9_load_60 rfl (lv_at hl 0 rfl) ?_
      refine gx_get (v := .ref (g.2.1 53)) (C := RX9) (T := TX9) (N := 44) hx hb hts mc_X9 hown hK hG (ga_50 g _) rfl 2 (by decide) hw0 rfl rfl dX9_load_61 ?_
      refine lv_bipush (v := (60 : Int32)) hx hb dX9_load_64 (by decide) ?_
      refine lv_iload_n hx hb dX9_load_66 rfl (lv_at hl 1 rfl) ?_
      refine lv_imul hx hb dX9_load_67 ?_
      refine lv_iload_n hx hb dX9_load_68 rfl (lv_at hl 2 rfl) ?_
      refine lv_iadd hx hb dX9_load_69 ?_
      refine lv_iconst (v := (2 : Int32)) hx hb dX9_load_70 (by decide) ?_
      refine lv_iload hx hb dX9_load_71 (lv_at hl 4 rfl) ?_
      refine lv_imul hx hb dX9_load_73 ?_
      refine lv_iadd hx hb dX9_load_74 ?_
      obtain ⟨hg8, h⟩ := gd_some h
      refine gx_iald (f := (σ.2.2.1 53)) hx hb hK hG (ga_53 g _) hg8 dX9_load_75 ?_
      refine lv_topi (fun y9 ey9 => ?_)
      have h := lt_at h ey9
      refine lv_istore (lv' := [(5, .int y9), (0, .ref (g.2.1 50)), (1, .int x1), (2, .int x2), (3, .int x3), (4, .int x4)]) hx hb dX9_load_76 hl (Nat.le_of_ble_eq_true rfl) rfl (fun ls hl => ?_)
      refine lv_aload_n hx hb dX9_load_78 rfl (lv_at hl 1 rfl) ?_
      refine gx_get (v := .ref (g.2.1 53)) (C := RX9) (T := TX9) (N := 44) hx hb hts mc_X9 hown hK hG (ga_50 g _) rfl 2 (by decide) hw0 rfl rfl dX9_load_79 ?_
      refine lv_bipush (v := (60 : Int32)) hx hb dX9_load_82 (by decide) ?_
      refine lv_iload_n hx hb dX9_load_84 rfl (lv_at hl 2 rfl) ?_
      refine lv_imul hx hb dX9_load_85 ?_
      refine lv_iload_n hx hb dX9_load_86 rfl (lv_at hl 3 rfl) ?_
      refine lv_iadd hx hb dX9_load_87 ?_
      refine lv_iconst (v := (2 : Int32)) hx hb dX9_load_88 (by decide) ?_
      refine lv_iload hx hb dX9_load_89 (lv_at hl 5 rfl) ?_
      refine lv_imul hx hb dX9_load_91 ?_
      refine lv_iadd hx hb dX9_load_92 ?_
      refine lv_iconst (v := (1 : Int32)) hx hb dX9_load_93 (by decide) ?_
      refine lv_iadd hx hb dX9_load_94 ?_
      obtain ⟨hg10, h⟩ := gd_some h
      refine gx_iald (f := (σ.2.2.1 53)) hx hb hK hG (ga_53 g _) hg10 dX9_load_95 ?_
      refine lv_topi (fun y11 ey11 => ?_)
      have h := lt_at h ey11
      refine lv_istore (lv' := [(6, .int y11), (5, .int y9), (0, .ref (g.2.1 50)), (1, .int x1), (2, .int x2), (3, .int x3), (4, .int x4)]) hx hb dX9_load_96 hl (Nat.le_of_ble_eq_true rfl) rfl (fun ls hl => ?_)
      refine lv_aload_n hx hb dX9_load_98 rfl (lv_at hl 2 rfl) ?_
      refine lv_iload hx hb dX9_load_99 (lv_at hl 1 rfl) ?_
      obtain ⟨z12, hc13, h⟩ := bnd_some h
      refine gx_cV (σ' := (mkS σ [(3238, v_areKindsFound), (3212, v_isMeasured)] [] [(54, v_road)] [])) (r := (some (.int z12))) (rest := []) (As := [.int y9]) hS9 (c_M_isPost l g (mkS σ [(3238, v_areKindsFound), (3212, v_isMeasured)] [] [(54, v_road)] []) y9 z12 hc13) rfl (cwV 1 hts (gz_V mw_5_66 mw_5_68 ms_3_5 mw_1_11 mw_5_69) rfl rfl rfl hdV_X9_isPost ⟨Nat.le_of_ble_eq_true rfl, Nat.le_of_ble_eq_true rfl⟩) hK hG (ga_50 g _) rfl rfl rfl hl.1 rfl (Nat.le_of_ble_eq_true rfl) dX9_load_101 (fun H locs hG => ?_)
      refine W.eq (g2 := F0 m 104 ls [.int z12]) rfl ?_
      refine lv_if_eq (tgt := 123) hx hb dX9_load_104 (by decide) (fun c14 => ?_) (fun c14 => ?_)
      · have h := ite_t c14 h
        exact n123 v_areKindsFound v_isMeasured v_road _ _ _ (lv_sub hl [] rfl) hG h
      · have h := ite_f c14 h
        refine lv_aload_n hx hb dX9_load_107 rfl (lv_at hl 2 rfl) ?_
        refine lv_iload hx hb dX9_load_108 (lv_at hl 0 rfl) ?_
        obtain ⟨z15, hc16, h⟩ := bnd_some h
        refine gx_cV (σ' := (mkS σ [(3238, v_areKindsFound), (3212, v_isMeasured)] [] [(54, v_road)] [])) (r := (some (.int z15))) (rest := []) (As := [.int y11]) hS9 (c_M_isPost l g (mkS σ [(3238, v_areKindsFound), (3212, v_isMeasured)] [] [(54, v_road)] []) y11 z15 hc16) rfl (cwV 1 hts (gz_V mw_5_66 mw_5_68 ms_3_5 mw_1_11 mw_5_69) rfl rfl rfl hdV_X9_isPost ⟨Nat.le_of_ble_eq_true rfl, Nat.le_of_ble_eq_true rfl⟩) hK hG (ga_50 g _) rfl rfl rfl hl.1 rfl (Nat.le_of_ble_eq_true rfl) dX9_load_110 (fun H locs hG => ?_)
        refine W.eq (g2 := F0 m 113 ls [.int z15]) rfl ?_
        refine lv_if_eq (tgt := 123) hx hb dX9_load_113 (by decide) (fun c17 => ?_) (fun c17 => ?_)
        · have h := ite_t c17 h
          exact n123 v_areKindsFound v_isMeasured v_road _ _ _ (lv_sub hl [] rfl) hG h
        · have h := ite_f c17 h
          refine lv_iload hx hb dX9_load_116 (lv_at hl 1 rfl) ?_
          refine lv_iload hx hb dX9_load_118 (lv_at hl 0 rfl) ?_
          refine lv_icmp_ne (tgt := 125) hx hb dX9_load_120 (by decide) (fun c18 => ?_) (fun c18 => ?_)
          · have h := ite_f c18 h
            refine lv_iinc (v := (x4 + (1 : Int32))) (lv' := [(4, .int (x4 + (1 : Int32))), (6, .int y11), (5, .int y9), (0, .ref (g.2.1 50)), (1, .int x1), (2, .int x2), (3, .int x3)]) hx hb dX9_load_125 hl (k := 6) rfl (congrArg (fun z => x4 + z) (by decide)) (Nat.le_of_ble_eq_true rfl) rfl (fun ls hl => ?_)
            refine lv_goto (tgt := 54) hx hb dX9_load_128 (by decide) ?_
            exact hk54 x1 x2 x3 (x4 + (1 : Int32)) v_areKindsFound v_isMeasured v_road _ _ _ (lv_sub hl [3, 4, 5, 6, 0] rfl) hG h
          · have h := ite_t c18 h
            exact n123 v_areKindsFound v_isMeasured v_road _ _ _ (lv_sub hl [] rfl) hG h
  have l54 : ∀  (F : Nat) (x1 : Int32) (x2 : Int32) (x3 : Int32) (x4 : Int32) (v_areKindsFound : Int32) (v_isMeasured : Int32) (v_road : Nat → Int32) (H : Heap) (locs : List Loc) (ls : Array Slot), lv_has ls 7 [(0, .ref (g.2.1 50)), (1, .int x1), (2, .int x2), (3, .int x3), (4, .int x4)] → GW g s (mkS σ [(3238, v_areKindsFound), (3212, v_isMeasured)] [] [(54, v_road)] []) H locs → M_load_l54 (σ.1 3203) (σ.2.2.1 53) F x1 x2 x3 x4 v_areKindsFound v_isMeasured v_road = some (r, w_areKindsFound, w_isMeasured, w_road) → Wg p l e 2 46 s m args below meth c g (some (.int r)) (mkS σ [(3238, w_areKindsFound), (3212, w_isMeasured)] [] [(54, w_road)] []) H locs (F0 m 54 ls []) := by
    intro F
    induction F with
    | zero => intro x1 x2 x3 x4 v_areKindsFound v_isMeasured v_road H locs ls hl hG h; exact no_some h
    | succ F ih => intro x1 x2 x3 x4 v_areKindsFound v_isMeasured v_road H locs ls hl hG h; exact n54 (fun x1 x2 x3 x4 v_areKindsFound v_isMeasured v_road => M_load_l54 (σ.1 3203) (σ.2.2.1 53) F x1 x2 x3 x4 v_areKindsFound v_isMeasured v_road) ih x1 x2 x3 x4 v_areKindsFound v_isMeasured v_road H locs ls hl hG h
  refine lv_iload_n hx hb dX9_load_0 rfl (lv_at hl 1 rfl) ?_
  obtain ⟨z19, hc20, h⟩ := bnd_some h
  refine gx_cS (σ' := (mkS σ [(3238, (σ.1 3238)), (3212, (σ.1 3212))] [] [(54, (σ.2.2.1 54))] [])) (r := (some (.int z19))) (rest := []) (As := [.int x1]) hS9 (c_M_isSheet l g (mkS σ [(3238, (σ.1 3238)), (3212, (σ.1 3212))] [] [(54, (σ.2.2.1 54))] []) x1 z19 hc20) rfl (va_cwS 1 hts (gz_S mw_5_37 mw_5_38 mw_1_11 mw_5_39) rfl rfl rfl hdS_X9_isSheet ⟨Nat.le_of_ble_eq_true rfl, Nat.le_of_ble_eq_true rfl⟩) hK hG rfl hl.1 rfl (Nat.le_of_ble_eq_true rfl) dX9_load_1 (fun H locs hG => ?_)
  refine W.eq (g2 := F0 m 4 ls [.int z19]) rfl ?_
  refine lv_if_ne (tgt := 9) hx hb dX9_load_4 (by decide) (fun c21 => ?_) (fun c21 => ?_)
  · have h := ite_f c21 h
    refine lv_aload_n hx hb dX9_load_9 rfl (lv_at hl 0 rfl) ?_
    refine gx_get (v := .ref (g.2.1 52)) (C := RX9) (T := TX9) (N := 44) hx hb hts mc_X9 hown hK hG (ga_50 g _) rfl 1 (by decide) hw1 rfl rfl dX9_load_10 ?_
    refine lv_iload_n hx hb dX9_load_13 rfl (lv_at hl 1 rfl) ?_
    obtain ⟨hg22, h⟩ := gd_some h
    refine gx_iald (f := (σ.2.2.1 52)) hx hb hK hG (ga_52 g _) hg22 dX9_load_14 ?_
    refine lv_if_ge (tgt := 21) hx hb dX9_load_15 (by decide) (fun c23 => ?_) (fun c23 => ?_)
    · have h := ite_t c23 h
      refine lv_iload_n hx hb dX9_load_21 rfl (lv_at hl 2 rfl) ?_
      refine lv_if_lt (tgt := 49) hx hb dX9_load_22 (by decide) (fun c24 => ?_) (fun c24 => ?_)
      · have h := ite_t c24 h
        exact n49 (σ.1 3238) (σ.1 3212) (σ.2.2.1 54) _ _ _ (lv_sub hl [] rfl) hG h
      · have h := ite_f c24 h
        refine lv_iload_n hx hb dX9_load_25 rfl (lv_at hl 3 rfl) ?_
        refine lv_if_lt (tgt := 49) hx hb dX9_load_26 (by decide) (fun c25 => ?_) (fun c25 => ?_)
        · have h := ite_t c25 h
          exact n49 (σ.1 3238) (σ.1 3212) (σ.2.2.1 54) _ _ _ (lv_sub hl [] rfl) hG h
        · have h := ite_f c25 h
          refine lv_iload_n hx hb dX9_load_29 rfl (lv_at hl 2 rfl) ?_
          refine lv_i2l hx hb dX9_load_30 rfl ?_
          refine lv_ldc2 hx hb hown hw2 dX9_load_31 ?_
          refine lv_iload_n hx hb dX9_load_34 rfl (lv_at hl 3 rfl) ?_
          refine lv_i2l hx hb dX9_load_35 rfl ?_
          refine lv_lmul hx hb dX9_load_36 ?_
          refine lv_ladd hx hb dX9_load_37 ?_
          refine lv_aload_n hx hb dX9_load_38 rfl (lv_at hl 0 rfl) ?_
          refine gx_get (v := .ref (g.2.1 52)) (C := RX9) (T := TX9) (N := 44) hx hb hts mc_X9 hown hK hG (ga_50 g _) rfl 1 (by decide) hw1 rfl rfl dX9_load_39 ?_
          refine lv_iload_n hx hb dX9_load_42 rfl (lv_at hl 1 rfl) ?_
          refine gx_iald (f := (σ.2.2.1 52)) hx hb hK hG (ga_52 g _) hg22 dX9_load_43 ?_
          refine lv_i2l hx hb dX9_load_44 rfl ?_
          refine W.lcmp hx hb dX9_load_45 ?_
          refine lv_if_le (tgt := 51) hx hb dX9_load_46 (by decide) (fun c26 => ?_) (fun c26 => ?_)
          · have h := ite_t c26 h
            refine lv_iconst (v := (0 : Int32)) hx hb dX9_load_51 (by decide) ?_
            refine lv_istore (lv' := [(4, .int (0 : Int32)), (0, .ref (g.2.1 50)), (1, .int x1), (2, .int x2), (3, .int x3)]) hx hb dX9_load_52 hl (Nat.le_of_ble_eq_true rfl) rfl (fun ls hl => ?_)
            exact l54 FUEL x1 x2 x3 (0 : Int32) (σ.1 3238) (σ.1 3212) (σ.2.2.1 54) _ _ _ (lv_sub hl [1, 2, 3, 4, 0] rfl) hG h
          · have h := ite_f c26 h
            exact n49 (σ.1 3238) (σ.1 3212) (σ.2.2.1 54) _ _ _ (lv_sub hl [] rfl) hG h
    · have h := ite_f c23 h
      refine lv_bipush (v := (-3 : Int32)) hx hb dX9_load_18 (by decide) ?_
      cases h
      exact gx_iret hx hb hr hlocks hG dX9_load_20
  · have h := ite_t c21 h
    refine lv_iconst (v := (-1 : Int32)) hx hb dX9_load_7 (by decide) ?_
    cases h
    exact gx_iret hx hb hr hlocks hG dX9_load_8

set_option maxHeartbeats 4000000 in
set_option maxRecDepth 100000 in
theorem c_M_lose (l : Launch) (g : GC) (σ : St) (x1 : Int32) (r : Int32) (w_sheetSize : Nat → Int32) (h : M_lose x1 (σ.2.2.1 52) = some (r, w_sheetSize)) : Cn l g yX9_lose (Cond.code yX9_lose cX9_lose 2 (some .int) :: wG) 2 45 [.ref (g.2.1 50), .int x1] σ (some (.int r)) (mkS σ [] [] [(52, w_sheetSize)] []) := by
  unfold Cn
  refine Met.ofW (cc := cX9_lose) (maxL := 2) (ret := (some .int)) (by decide) rfl ?_
  intro p e s m args below meth c s₁ B hml hv
  obtain ⟨hargs, hP0, hK⟩ := hv
  have hx := B.exec
  have hb := B.bytes
  have hr := B.returns
  have hts : ∀ w ∈ wG, w.before args s = true := fun w h => atoms_spec (ws := (Cond.code yX9_lose cX9_lose 2 (some .int) :: wG)) B.pre w (List.mem_cons_of_mem _ h)
  have hown : s.vm.findClass RX9 = some m.cls := findClass_of_methodNamed B.named
  have hlocks := B.notSynchronized
  have hS9 : CallFix p m c cX9_lose 2 s args wG RX9 := ⟨hx, hb, hml, hown, hts⟩
  have hw0 := hts _ mw_4_140
  have hf9 : entryFrame m args 2 = _ := (congrArg (fun a => entryFrame m a 2) hargs).trans (lg_entry_eq m [.ref (g.2.1 50), .int x1] 2)
  show Wg p l e 2 45 s m args below meth c g (some (.int r)) (mkS σ [] [] [(52, w_sheetSize)] []) s.heap [] (entryFrame m args 2)
  rw [hf9]
  have hl := lv_entry ([.ref (g.2.1 50), .int x1]) (n := 2) (Nat.le_of_ble_eq_true rfl)
  generalize (lg_sl ([.ref (g.2.1 50), .int x1]) ++ List.replicate (2 - (lg_sl ([.ref (g.2.1 50), .int x1])).length) Slot.unset).toArray = ls at hl ⊢
  have hl : lv_has ls 2 [(0, .ref (g.2.1 50)), (1, .int x1)] := hl
  have hG : GW g s σ s.heap [] := ⟨hP0, va_S.rf⟩
  have hG : GW g s (mkS σ [] [] [(52, (σ.2.2.1 52))] []) s.heap [] := GW_self [] [] [52] [] hG
  unfold M_lose at h
  refine lv_iload_n hx hb dX9_lose_0 rfl (lv_at hl 1 rfl) ?_
  obtain ⟨z1, hc2, h⟩ := bnd_some h
  refine gx_cS (σ' := (mkS σ [] [] [(52, (σ.2.2.1 52))] [])) (r := (some (.int z1))) (rest := []) (As := [.int x1]) hS9 (c_M_isSheet l g (mkS σ [] [] [(52, (σ.2.2.1 52))] []) x1 z1 hc2) rfl (va_cwS 1 hts (gz_S mw_5_37 mw_5_38 mw_1_11 mw_5_39) rfl rfl rfl hdS_X9_isSheet ⟨Nat.le_of_ble_eq_true rfl, Nat.le_of_ble_eq_true rfl⟩) hK hG rfl hl.1 rfl (Nat.le_of_ble_eq_true rfl) dX9_lose_1 (fun H locs hG => ?_)
  refine W.eq (g2 := F0 m 4 ls [.int z1]) rfl ?_
  refine lv_if_ne (tgt := 9) hx hb dX9_lose_4 (by decide) (fun c3 => ?_) (fun c3 => ?_)
  · have h := ite_f c3 h
    refine lv_aload_n hx hb dX9_lose_9 rfl (lv_at hl 0 rfl) ?_
    refine gx_get (v := .ref (g.2.1 52)) (C := RX9) (T := TX9) (N := 44) hx hb hts mc_X9 hown hK hG (ga_50 g _) rfl 1 (by decide) hw0 rfl rfl dX9_lose_10 ?_
    refine lv_iload_n hx hb dX9_lose_13 rfl (lv_at hl 1 rfl) ?_
    obtain ⟨hg4, h⟩ := gd_some h
    refine gx_iald (f := (σ.2.2.1 52)) hx hb hK hG (ga_52 g _) hg4 dX9_lose_14 ?_
    refine lv_if_ge (tgt := 21) hx hb dX9_lose_15 (by decide) (fun c5 => ?_) (fun c5 => ?_)
    · have h := ite_t c5 h
      refine lv_aload_n hx hb dX9_lose_21 rfl (lv_at hl 0 rfl) ?_
      refine gx_get (v := .ref (g.2.1 52)) (C := RX9) (T := TX9) (N := 44) hx hb hts mc_X9 hown hK hG (ga_50 g _) rfl 1 (by decide) hw0 rfl rfl dX9_lose_22 ?_
      refine lv_iload_n hx hb dX9_lose_25 rfl (lv_at hl 1 rfl) ?_
      refine lv_iconst (v := (-1 : Int32)) hx hb dX9_lose_26 (by decide) ?_
      refine gx_iast (σ' := (mkS σ [] [] [(52, (upd (σ.2.2.1 52) (x1.toNatClampNeg) (-1 : Int32)))] [])) (f := (σ.2.2.1 52)) hx hb hK hG (ga_52 g _) hg4 ((gs_52 g _ _).trans (congrArg (g_cells g) (mk_c 0 rfl rfl))) dX9_lose_27 (fun H locs hG => ?_)
      refine lv_iconst (v := (1 : Int32)) hx hb dX9_lose_28 (by decide) ?_
      cases h
      exact gx_iret hx hb hr hlocks hG dX9_lose_29
    · have h := ite_f c5 h
      refine lv_bipush (v := (-3 : Int32)) hx hb dX9_lose_18 (by decide) ?_
      cases h
      exact gx_iret hx hb hr hlocks hG dX9_lose_20
  · have h := ite_t c3 h
    refine lv_iconst (v := (-1 : Int32)) hx hb dX9_lose_7 (by decide) ?_
    cases h
    exact gx_iret hx hb hr hlocks hG dX9_lose_8

set_option maxHeartbeats 4000000 in
set_option maxRecDepth 100000 in
theorem c_M_isEven (l : Launch) (g : GC) (σ : St) (r : Int32) (h : M_isEven (σ.1 3203) (σ.2.2.1 54) = some r) : Cn l g yX9_isEven (Cond.code yX9_isEven cX9_isEven 3 (some .boolean) :: wG) 1 23 [.ref (g.2.1 50)] σ (some (.int r)) σ := by
  unfold Cn
  refine Met.ofW (cc := cX9_isEven) (maxL := 3) (ret := (some .boolean)) (by decide) rfl ?_
  intro p e s m args below meth c s₁ B hml hv
  obtain ⟨hargs, hP0, hK⟩ := hv
  have hx := B.exec
  have hb := B.bytes
  have hr := B.returns
  have hts : ∀ w ∈ wG, w.before args s = true := fun w h => atoms_spec (ws := (Cond.code yX9_isEven cX9_isEven 3 (some .boolean) :: wG)) B.pre w (List.mem_cons_of_mem _ h)
  have hown : s.vm.findClass RX9 = some m.cls := findClass_of_methodNamed B.named
  have hlocks := B.notSynchronized
  have hS9 : CallFix p m c cX9_isEven 3 s args wG RX9 := ⟨hx, hb, hml, hown, hts⟩
  have hw0 := hts _ mw_4_142
  have hf9 : entryFrame m args 3 = _ := (congrArg (fun a => entryFrame m a 3) hargs).trans (lg_entry_eq m [.ref (g.2.1 50)] 3)
  show Wg p l e 1 23 s m args below meth c g (some (.int r)) σ s.heap [] (entryFrame m args 3)
  rw [hf9]
  have hl := lv_entry ([.ref (g.2.1 50)]) (n := 3) (Nat.le_of_ble_eq_true rfl)
  generalize (lg_sl ([.ref (g.2.1 50)]) ++ List.replicate (3 - (lg_sl ([.ref (g.2.1 50)])).length) Slot.unset).toArray = ls at hl ⊢
  have hl : lv_has ls 3 [(0, .ref (g.2.1 50))] := hl
  have hG : GW g s σ s.heap [] := ⟨hP0, va_S.rf⟩
  unfold M_isEven at h
  have n34 : ∀ (k4 : Int32 → Int32 → Option (Int32)) (hk4 : ∀ (x1 : Int32) (x2 : Int32) (H : Heap) (locs : List Loc) (ls : Array Slot), lv_has ls 3 [(0, .ref (g.2.1 50)), (1, .int x1), (2, .int x2)] → GW g s σ H locs → k4 x1 x2 = some r → Wg p l e 1 23 s m args below meth c g (some (.int r)) σ H locs (F0 m 4 ls [])) (x2 : Int32) (t0 : Int32) (H : Heap) (locs : List Loc) (ls : Array Slot), lv_has ls 3 [(0, .ref (g.2.1 50)), (2, .int x2)] → GW g s σ H locs → M_isEven_n34 k4 x2 t0 = some r → Wg p l e 1 23 s m args below meth c g (some (.int r)) σ H locs (F0 m 34 ls [.int t0]) := by
    intro k4 hk4 x2 t0 H locs ls hl hG h
    unfold M_isEven_n34 at h
    refine lv_istore_n (lv' := [(1, .int t0), (0, .ref (g.2.1 50)), (2, .int x2)]) hx hb dX9_isEven_34 rfl hl (Nat.le_of_ble_eq_true rfl) rfl (fun ls hl => ?_)
    refine lv_iinc (v := (x2 + (1 : Int32))) (lv' := [(2, .int (x2 + (1 : Int32))), (1, .int t0), (0, .ref (g.2.1 50))]) hx hb dX9_isEven_35 hl (k := 2) rfl (congrArg (fun z => x2 + z) (by decide)) (Nat.le_of_ble_eq_true rfl) rfl (fun ls hl => ?_)
    refine lv_goto (tgt := 4) hx hb dX9_isEven_38 (by decide) ?_
    exact hk4 t0 (x2 + (1 : Int32)) _ _ _ (lv_sub hl [2, 1, 0] rfl) hG h
  have n33 : ∀ (k4 : Int32 → Int32 → Option (Int32)) (hk4 : ∀ (x1 : Int32) (x2 : Int32) (H : Heap) (locs : List Loc) (ls : Array Slot), lv_has ls 3 [(0, .ref (g.2.1 50)), (1, .int x1), (2, .int x2)] → GW g s σ H locs → k4 x1 x2 = some r → Wg p l e 1 23 s m args below meth c g (some (.int r)) σ H locs (F0 m 4 ls [])) (x2 : Int32) (H : Heap) (locs : List Loc) (ls : Array Slot), lv_has ls 3 [(0, .ref (g.2.1 50)), (2, .int x2)] → GW g s σ H locs → M_isEven_n33 k4 x2 = some r → Wg p l e 1 23 s m args below meth c g (some (.int r)) σ H locs (F0 m 33 ls []) := by
    intro k4 hk4 x2 H locs ls hl hG h
    unfold M_isEven_n33 at h
    refine lv_iconst (v := (0 : Int32)) hx hb dX9_isEven_33 (by decide) ?_
    exact n34 k4 hk4 x2 (0 : Int32) _ _ _ (lv_sub hl [0, 1] rfl) hG h
  have n41 : ∀ (x1 : Int32) (H : Heap) (locs : List Loc) (ls : Array Slot), lv_has ls 3 [(1, .int x1)] → GW g s σ H locs → M_isEven_n41 x1 = some r → Wg p l e 1 23 s m args below meth c g (some (.int r)) σ H locs (F0 m 41 ls []) := by
    intro x1 H locs ls hl hG h
    unfold M_isEven_n41 at h
    refine lv_iload_n hx hb dX9_isEven_41 rfl (lv_at hl 0 rfl) ?_
    obtain ⟨hg1, h⟩ := gd_some h
    cases h
    exact gx_zret hx hb hr hlocks hg1 hG dX9_isEven_42
  have n4 : ∀ (k4 : Int32 → Int32 → Option (Int32)) (hk4 : ∀ (x1 : Int32) (x2 : Int32) (H : Heap) (locs : List Loc) (ls : Array Slot), lv_has ls 3 [(0, .ref (g.2.1 50)), (1, .int x1), (2, .int x2)] → GW g s σ H locs → k4 x1 x2 = some r → Wg p l e 1 23 s m args below meth c g (some (.int r)) σ H locs (F0 m 4 ls [])) (x1 : Int32) (x2 : Int32) (H : Heap) (locs : List Loc) (ls : Array Slot), lv_has ls 3 [(0, .ref (g.2.1 50)), (1, .int x1), (2, .int x2)] → GW g s σ H locs → M_isEven_n4 k4 (σ.1 3203) (σ.2.2.1 54) x1 x2 = some r → Wg p l e 1 23 s m args below meth c g (some (.int r)) σ H locs (F0 m 4 ls []) := by
    intro k4 hk4 x1 x2 H locs ls hl hG h
    unfold M_isEven_n4 at h
    refine lv_iload_n hx hb dX9_isEven_4 rfl (lv_at hl 2 rfl) ?_
    refine lv_aload_n hx hb dX9_isEven_5 rfl (lv_at hl 0 rfl) ?_
    refine gx_get (v := .int (σ.1 3203)) (C := RX9) (T := TX9) (N := 44) hx hb hts mc_X9 hown hK hG (ga_50 g _) rfl 3 (by decide) hw0 rfl rfl dX9_isEven_6 ?_
    refine lv_icmp_ge (tgt := 41) hx hb dX9_isEven_9 (by decide) (fun c2 => ?_) (fun c2 => ?_)
    · have h := ite_t c2 h
      exact n41 x1 _ _ _ (lv_sub hl [1] rfl) hG h
    · have h := ite_f c2 h
      refine lv_iload_n hx hb dX9_isEven_12 rfl (lv_at hl 1 rfl) ?_
      refine lv_if_eq (tgt := 33) hx hb dX9_isEven_13 (by decide) (fun c3 => ?_) (fun c3 => ?_)
      · have h := ite_t c3 h
        exact n33 k4 hk4 x2 _ _ _ (lv_sub hl [0, 2] rfl) hG h
      · have h := ite_f c3 h
        refine lv_aload_n hx hb dX9_isEven_16 rfl (lv_at hl 0 rfl) ?_
        refine lv_iload_n hx hb dX9_isEven_17 rfl (lv_at hl 2 rfl) ?_
        obtain ⟨z4, hc5, h⟩ := bnd_some h
        refine gx_cV (σ' := σ) (r := (some (.int z4))) (rest := []) (As := [.int x2]) hS9 (c_M_fullness l g σ x2 z4 hc5) rfl (cwV 1 hts (gz_V mw_5_133 mw_5_135 ms_3_12 mw_1_11 mw_5_136) rfl rfl rfl hdV_X9_fullness ⟨Nat.le_of_ble_eq_true rfl, Nat.le_of_ble_eq_true rfl⟩) hK hG (ga_50 g _) rfl rfl rfl hl.1 rfl (Nat.le_of_ble_eq_true rfl) dX9_isEven_18 (fun H locs hG => ?_)
        refine W.eq (g2 := F0 m 21 ls [.int z4]) rfl ?_
        refine lv_aload_n hx hb dX9_isEven_21 rfl (lv_at hl 0 rfl) ?_
        refine lv_iconst (v := (0 : Int32)) hx hb dX9_isEven_22 (by decide) ?_
        obtain ⟨z6, hc7, h⟩ := bnd_some h
        refine gx_cV (σ' := σ) (r := (some (.int z6))) (rest := [.int z4]) (As := [.int (0 : Int32)]) hS9 (c_M_fullness l g σ (0 : Int32) z6 hc7) rfl (cwV 1 hts (gz_V mw_5_133 mw_5_135 ms_3_12 mw_1_11 mw_5_136) rfl rfl rfl hdV_X9_fullness ⟨Nat.le_of_ble_eq_true rfl, Nat.le_of_ble_eq_true rfl⟩) hK hG (ga_50 g _) rfl rfl rfl hl.1 rfl (Nat.le_of_ble_eq_true rfl) dX9_isEven_23 (fun H locs hG => ?_)
        refine W.eq (g2 := F0 m 26 ls [.int z6, .int z4]) rfl ?_
        refine lv_icmp_ne (tgt := 33) hx hb dX9_isEven_26 (by decide) (fun c8 => ?_) (fun c8 => ?_)
        · have h := ite_f c8 h
          exact n33 k4 hk4 x2 _ _ _ (lv_sub hl [0, 2] rfl) hG h
        · have h := ite_t c8 h
          refine lv_iconst (v := (1 : Int32)) hx hb dX9_isEven_29 (by decide) ?_
          refine lv_goto (tgt := 34) hx hb dX9_isEven_30 (by decide) ?_
          exact n34 k4 hk4 x2 (1 : Int32) _ _ _ (lv_sub hl [0, 2] rfl) hG h
  have l4 : ∀  (F : Nat) (x1 : Int32) (x2 : Int32) (H : Heap) (locs : List Loc) (ls : Array Slot), lv_has ls 3 [(0, .ref (g.2.1 50)), (1, .int x1), (2, .int x2)] → GW g s σ H locs → M_isEven_l4 (σ.1 3203) (σ.2.2.1 54) F x1 x2 = some r → Wg p l e 1 23 s m args below meth c g (some (.int r)) σ H locs (F0 m 4 ls []) := by
    intro F
    induction F with
    | zero => intro x1 x2 H locs ls hl hG h; exact no_some h
    | succ F ih => intro x1 x2 H locs ls hl hG h; exact n4 (fun x1 x2 => M_isEven_l4 (σ.1 3203) (σ.2.2.1 54) F x1 x2) ih x1 x2 H locs ls hl hG h
  refine lv_iconst (v := (1 : Int32)) hx hb dX9_isEven_0 (by decide) ?_
  refine lv_istore_n (lv' := [(1, .int (1 : Int32)), (0, .ref (g.2.1 50))]) hx hb dX9_isEven_1 rfl hl (Nat.le_of_ble_eq_true rfl) rfl (fun ls hl => ?_)
  refine lv_iconst (v := (1 : Int32)) hx hb dX9_isEven_2 (by decide) ?_
  refine lv_istore_n (lv' := [(2, .int (1 : Int32)), (1, .int (1 : Int32)), (0, .ref (g.2.1 50))]) hx hb dX9_isEven_3 rfl hl (Nat.le_of_ble_eq_true rfl) rfl (fun ls hl => ?_)
  exact l4 FUEL (1 : Int32) (1 : Int32) _ _ _ (lv_sub hl [2, 1, 0] rfl) hG h

set_option maxHeartbeats 4000000 in
set_option maxRecDepth 100000 in
theorem c_M_wayRound (l : Launch) (g : GC) (σ : St) (x1 : Int32) (x2 : Int32) (r : Int32) (w_layer : Nat → Int32) (h : M_wayRound x1 x2 (σ.1 3203) (σ.2.2.1 60) (σ.2.2.1 54) = some (r, w_layer)) : Cn l g yX9_wayRound (Cond.code yX9_wayRound cX9_wayRound 7 (some .int) :: wG) 0 0 [.ref (g.2.1 50), .int x1, .int x2] σ (some (.int r)) (mkS σ [] [] [(60, w_layer)] []) := by
  unfold Cn
  refine Met.ofW (cc := cX9_wayRound) (maxL := 7) (ret := (some .int)) (by decide) rfl ?_
  intro p e s m args below meth c s₁ B hml hv
  obtain ⟨hargs, hP0, hK⟩ := hv
  have hx := B.exec
  have hb := B.bytes
  have hr := B.returns
  have hts : ∀ w ∈ wG, w.before args s = true := fun w h => atoms_spec (ws := (Cond.code yX9_wayRound cX9_wayRound 7 (some .int) :: wG)) B.pre w (List.mem_cons_of_mem _ h)
  have hown : s.vm.findClass RX9 = some m.cls := findClass_of_methodNamed B.named
  have hlocks := B.notSynchronized
  have hw0 := hts _ mw_4_155
  have hw1 := hts _ mw_4_142
  have hw2 := hts _ mw_4_143
  have hf9 : entryFrame m args 7 = _ := (congrArg (fun a => entryFrame m a 7) hargs).trans (lg_entry_eq m [.ref (g.2.1 50), .int x1, .int x2] 7)
  show Wg p l e 0 0 s m args below meth c g (some (.int r)) (mkS σ [] [] [(60, w_layer)] []) s.heap [] (entryFrame m args 7)
  rw [hf9]
  have hl := lv_entry ([.ref (g.2.1 50), .int x1, .int x2]) (n := 7) (Nat.le_of_ble_eq_true rfl)
  generalize (lg_sl ([.ref (g.2.1 50), .int x1, .int x2]) ++ List.replicate (7 - (lg_sl ([.ref (g.2.1 50), .int x1, .int x2])).length) Slot.unset).toArray = ls at hl ⊢
  have hl : lv_has ls 7 [(0, .ref (g.2.1 50)), (1, .int x1), (2, .int x2)] := hl
  have hG : GW g s σ s.heap [] := ⟨hP0, va_S.rf⟩
  have hG : GW g s (mkS σ [] [] [(60, (σ.2.2.1 60))] []) s.heap [] := GW_self [] [] [60] [] hG
  unfold M_wayRound at h
  have n26 : ∀ (k2 : Int32 → Int32 → Int32 → (Nat → Int32) → Option (Int32 × (Nat → Int32))) (hk2 : ∀ (x1 : Int32) (x2 : Int32) (x3 : Int32) (v_layer : Nat → Int32) (H : Heap) (locs : List Loc) (ls : Array Slot), lv_has ls 7 [(0, .ref (g.2.1 50)), (1, .int x1), (2, .int x2), (3, .int x3)] → GW g s (mkS σ [] [] [(60, v_layer)] []) H locs → k2 x1 x2 x3 v_layer = some (r, w_layer) → Wg p l e 0 0 s m args below meth c g (some (.int r)) (mkS σ [] [] [(60, w_layer)] []) H locs (F0 m 2 ls [])) (x1 : Int32) (x2 : Int32) (x3 : Int32) (t1 : Int32) (t2 : Int32) (v_layer : Nat → Int32) (H : Heap) (locs : List Loc) (ls : Array Slot), lv_has ls 7 [(0, .ref (g.2.1 50)), (1, .int x1), (2, .int x2), (3, .int x3)] → GW g s (mkS σ [] [] [(60, v_layer)] []) H locs → M_wayRound_n26 k2 x1 x2 x3 t1 t2 v_layer = some (r, w_layer) → Wg p l e 0 0 s m args below meth c g (some (.int r)) (mkS σ [] [] [(60, w_layer)] []) H locs (F0 m 26 ls [.int t2, .int t1, .ref (g.2.1 60)]) := by
    intro k2 hk2 x1 x2 x3 t1 t2 v_layer H locs ls hl hG h
    unfold M_wayRound_n26 at h
    obtain ⟨hg1, h⟩ := gd_some h
    refine gx_iast (σ' := (mkS σ [] [] [(60, (upd v_layer (t1.toNatClampNeg) t2))] [])) (f := v_layer) hx hb hK hG (ga_60 g _) hg1 ((gs_60 g _ _).trans (congrArg (g_cells g) (mk_c 0 rfl rfl))) dX9_wayRound_26 (fun H locs hG => ?_)
    refine lv_iinc (v := (x3 + (1 : Int32))) (lv' := [(3, .int (x3 + (1 : Int32))), (0, .ref (g.2.1 50)), (1, .int x1), (2, .int x2)]) hx hb dX9_wayRound_27 hl (k := 3) rfl (congrArg (fun z => x3 + z) (by decide)) (Nat.le_of_ble_eq_true rfl) rfl (fun ls hl => ?_)
    refine lv_goto (tgt := 2) hx hb dX9_wayRound_30 (by decide) ?_
    exact hk2 x1 x2 (x3 + (1 : Int32)) (upd v_layer (t1.toNatClampNeg) t2) _ _ _ (lv_sub hl [1, 2, 3, 0] rfl) hG h
  have n149 : ∀ (k58 : Int32 → Int32 → Int32 → Int32 → Int32 → (Nat → Int32) → Option (Int32 × (Nat → Int32))) (hk58 : ∀ (x1 : Int32) (x2 : Int32) (x3 : Int32) (x4 : Int32) (x5 : Int32) (v_layer : Nat → Int32) (H : Heap) (locs : List Loc) (ls : Array Slot), lv_has ls 7 [(0, .ref (g.2.1 50)), (1, .int x1), (2, .int x2), (3, .int x3), (4, .int x4), (5, .int x5)] → GW g s (mkS σ [] [] [(60, v_layer)] []) H locs → k58 x1 x2 x3 x4 x5 v_layer = some (r, w_layer) → Wg p l e 0 0 s m args below meth c g (some (.int r)) (mkS σ [] [] [(60, w_layer)] []) H locs (F0 m 58 ls [])) (x1 : Int32) (x2 : Int32) (x3 : Int32) (x4 : Int32) (x5 : Int32) (t1 : Int32) (t2 : Int32) (v_layer : Nat → Int32) (H : Heap) (locs : List Loc) (ls : Array Slot), lv_has ls 7 [(0, .ref (g.2.1 50)), (1, .int x1), (2, .int x2), (3, .int x3), (4, .int x4), (5, .int x5)] → GW g s (mkS σ [] [] [(60, v_layer)] []) H locs → M_wayRound_n149 k58 x1 x2 x3 x4 x5 t1 t2 v_layer = some (r, w_layer) → Wg p l e 0 0 s m args below meth c g (some (.int r)) (mkS σ [] [] [(60, w_layer)] []) H locs (F0 m 149 ls [.int t2, .int t1, .ref (g.2.1 60)]) := by
    intro k58 hk58 x1 x2 x3 x4 x5 t1 t2 v_layer H locs ls hl hG h
    unfold M_wayRound_n149 at h
    obtain ⟨hg2, h⟩ := gd_some h
    refine gx_iast (σ' := (mkS σ [] [] [(60, (upd v_layer (t1.toNatClampNeg) t2))] [])) (f := v_layer) hx hb hK hG (ga_60 g _) hg2 ((gs_60 g _ _).trans (congrArg (g_cells g) (mk_c 0 rfl rfl))) dX9_wayRound_149 (fun H locs hG => ?_)
    refine lv_iinc (v := (x5 + (1 : Int32))) (lv' := [(5, .int (x5 + (1 : Int32))), (0, .ref (g.2.1 50)), (1, .int x1), (2, .int x2), (3, .int x3), (4, .int x4)]) hx hb dX9_wayRound_150 hl (k := 5) rfl (congrArg (fun z => x5 + z) (by decide)) (Nat.le_of_ble_eq_true rfl) rfl (fun ls hl => ?_)
    refine lv_goto (tgt := 58) hx hb dX9_wayRound_153 (by decide) ?_
    exact hk58 x1 x2 x3 x4 (x5 + (1 : Int32)) (upd v_layer (t1.toNatClampNeg) t2) _ _ _ (lv_sub hl [1, 2, 3, 4, 5, 0] rfl) hG h
  have n142 : ∀ (k58 : Int32 → Int32 → Int32 → Int32 → Int32 → (Nat → Int32) → Option (Int32 × (Nat → Int32))) (hk58 : ∀ (x1 : Int32) (x2 : Int32) (x3 : Int32) (x4 : Int32) (x5 : Int32) (v_layer : Nat → Int32) (H : Heap) (locs : List Loc) (ls : Array Slot), lv_has ls 7 [(0, .ref (g.2.1 50)), (1, .int x1), (2, .int x2), (3, .int x3), (4, .int x4), (5, .int x5)] → GW g s (mkS σ [] [] [(60, v_layer)] []) H locs → k58 x1 x2 x3 x4 x5 v_layer = some (r, w_layer) → Wg p l e 0 0 s m args below meth c g (some (.int r)) (mkS σ [] [] [(60, w_layer)] []) H locs (F0 m 58 ls [])) (x1 : Int32) (x2 : Int32) (x3 : Int32) (x4 : Int32) (x5 : Int32) (t1 : Int32) (v_layer : Nat → Int32) (H : Heap) (locs : List Loc) (ls : Array Slot), lv_has ls 7 [(0, .ref (g.2.1 50)), (1, .int x1), (2, .int x2), (3, .int x3), (4, .int x4), (5, .int x5)] → GW g s (mkS σ [] [] [(60, v_layer)] []) H locs → M_wayRound_n142 k58 x1 x2 x3 x4 x5 t1 v_layer = some (r, w_layer) → Wg p l e 0 0 s m args below meth c g (some (.int r)) (mkS σ [] [] [(60, w_layer)] []) H locs (F0 m 142 ls [.int t1, .ref (g.2.1 60)]) := by
    intro k58 hk58 x1 x2 x3 x4 x5 t1 v_layer H locs ls hl hG h
    unfold M_wayRound_n142 at h
    refine lv_aload_n hx hb dX9_wayRound_142 rfl (lv_at hl 0 rfl) ?_
    refine gx_get (v := .ref (g.2.1 60)) (C := RX9) (T := TX9) (N := 44) hx hb hts mc_X9 hown hK hG (ga_50 g _) rfl 16 (by decide) hw0 rfl rfl dX9_wayRound_143 ?_
    refine lv_iload hx hb dX9_wayRound_146 (lv_at hl 5 rfl) ?_
    obtain ⟨hg3, h⟩ := gd_some h
    refine gx_iald (f := v_layer) hx hb hK hG (ga_60 g _) hg3 dX9_wayRound_148 ?_
    exact n149 k58 hk58 x1 x2 x3 x4 x5 t1 (v_layer (x5.toNatClampNeg)) v_layer _ _ _ (lv_sub hl [0, 1, 2, 3, 4, 5] rfl) hG h
  have n111 : ∀ (k58 : Int32 → Int32 → Int32 → Int32 → Int32 → (Nat → Int32) → Option (Int32 × (Nat → Int32))) (hk58 : ∀ (x1 : Int32) (x2 : Int32) (x3 : Int32) (x4 : Int32) (x5 : Int32) (v_layer : Nat → Int32) (H : Heap) (locs : List Loc) (ls : Array Slot), lv_has ls 7 [(0, .ref (g.2.1 50)), (1, .int x1), (2, .int x2), (3, .int x3), (4, .int x4), (5, .int x5)] → GW g s (mkS σ [] [] [(60, v_layer)] []) H locs → k58 x1 x2 x3 x4 x5 v_layer = some (r, w_layer) → Wg p l e 0 0 s m args below meth c g (some (.int r)) (mkS σ [] [] [(60, w_layer)] []) H locs (F0 m 58 ls [])) (x1 : Int32) (x2 : Int32) (x3 : Int32) (x4 : Int32) (x5 : Int32) (t0 : Int32) (v_layer : Nat → Int32) (H : Heap) (locs : List Loc) (ls : Array Slot), lv_has ls 7 [(0, .ref (g.2.1 50)), (1, .int x1), (2, .int x2), (3, .int x3), (4, .int x4), (5, .int x5)] → GW g s (mkS σ [] [] [(60, v_layer)] []) H locs → M_wayRound_n111 k58 x1 x2 x3 x4 x5 t0 v_layer = some (r, w_layer) → Wg p l e 0 0 s m args below meth c g (some (.int r)) (mkS σ [] [] [(60, w_layer)] []) H locs (F0 m 111 ls [.int t0]) := by
    intro k58 hk58 x1 x2 x3 x4 x5 t0 v_layer H locs ls hl hG h
    unfold M_wayRound_n111 at h
    refine lv_istore (lv' := [(6, .int t0), (0, .ref (g.2.1 50)), (1, .int x1), (2, .int x2), (3, .int x3), (4, .int x4), (5, .int x5)]) hx hb dX9_wayRound_111 hl (Nat.le_of_ble_eq_true rfl) rfl (fun ls hl => ?_)
    refine lv_aload_n hx hb dX9_wayRound_113 rfl (lv_at hl 1 rfl) ?_
    refine gx_get (v := .ref (g.2.1 60)) (C := RX9) (T := TX9) (N := 44) hx hb hts mc_X9 hown hK hG (ga_50 g _) rfl 16 (by decide) hw0 rfl rfl dX9_wayRound_114 ?_
    refine lv_iload hx hb dX9_wayRound_117 (lv_at hl 6 rfl) ?_
    refine lv_iload hx hb dX9_wayRound_119 (lv_at hl 0 rfl) ?_
    refine lv_if_eq (tgt := 142) hx hb dX9_wayRound_121 (by decide) (fun c4 => ?_) (fun c4 => ?_)
    · have h := ite_t c4 h
      exact n142 k58 hk58 x1 x2 x3 x4 x5 x5 v_layer _ _ _ (lv_sub hl [1, 2, 3, 4, 5, 6] rfl) hG h
    · have h := ite_f c4 h
      refine lv_aload_n hx hb dX9_wayRound_124 rfl (lv_at hl 1 rfl) ?_
      refine gx_get (v := .ref (g.2.1 60)) (C := RX9) (T := TX9) (N := 44) hx hb hts mc_X9 hown hK hG (ga_50 g _) rfl 16 (by decide) hw0 rfl rfl dX9_wayRound_125 ?_
      refine lv_iload hx hb dX9_wayRound_128 (lv_at hl 6 rfl) ?_
      obtain ⟨hg5, h⟩ := gd_some h
      refine gx_iald (f := v_layer) hx hb hK hG (ga_60 g _) hg5 dX9_wayRound_130 ?_
      refine lv_bipush (v := (99 : Int32)) hx hb dX9_wayRound_131 (by decide) ?_
      refine lv_icmp_ne (tgt := 142) hx hb dX9_wayRound_133 (by decide) (fun c6 => ?_) (fun c6 => ?_)
      · have h := ite_f c6 h
        exact n142 k58 hk58 x1 x2 x3 x4 x5 x5 v_layer _ _ _ (lv_sub hl [1, 2, 3, 4, 5, 6] rfl) hG h
      · have h := ite_t c6 h
        refine lv_iload_n hx hb dX9_wayRound_136 rfl (lv_at hl 4 rfl) ?_
        refine lv_iconst (v := (1 : Int32)) hx hb dX9_wayRound_137 (by decide) ?_
        refine lv_iadd hx hb dX9_wayRound_138 ?_
        refine lv_goto (tgt := 149) hx hb dX9_wayRound_139 (by decide) ?_
        exact n149 k58 hk58 x1 x2 x3 x4 x5 x5 (x3 + (1 : Int32)) v_layer _ _ _ (lv_sub hl [1, 2, 3, 4, 5, 6] rfl) hG h
  have n106 : ∀ (k58 : Int32 → Int32 → Int32 → Int32 → Int32 → (Nat → Int32) → Option (Int32 × (Nat → Int32))) (hk58 : ∀ (x1 : Int32) (x2 : Int32) (x3 : Int32) (x4 : Int32) (x5 : Int32) (v_layer : Nat → Int32) (H : Heap) (locs : List Loc) (ls : Array Slot), lv_has ls 7 [(0, .ref (g.2.1 50)), (1, .int x1), (2, .int x2), (3, .int x3), (4, .int x4), (5, .int x5)] → GW g s (mkS σ [] [] [(60, v_layer)] []) H locs → k58 x1 x2 x3 x4 x5 v_layer = some (r, w_layer) → Wg p l e 0 0 s m args below meth c g (some (.int r)) (mkS σ [] [] [(60, w_layer)] []) H locs (F0 m 58 ls [])) (x1 : Int32) (x2 : Int32) (x3 : Int32) (x4 : Int32) (x5 : Int32) (v_layer : Nat → Int32) (H : Heap) (locs : List Loc) (ls : Array Slot), lv_has ls 7 [(0, .ref (g.2.1 50)), (1, .int x1), (2, .int x2), (3, .int x3), (4, .int x4), (5, .int x5)] → GW g s (mkS σ [] [] [(60, v_layer)] []) H locs → M_wayRound_n106 k58 x1 x2 x3 x4 x5 v_layer = some (r, w_layer) → Wg p l e 0 0 s m args below meth c g (some (.int r)) (mkS σ [] [] [(60, w_layer)] []) H locs (F0 m 106 ls []) := by
    intro k58 hk58 x1 x2 x3 x4 x5 v_layer H locs ls hl hG h
    unfold M_wayRound_n106 at h
    refine lv_iconst (v := (1 : Int32)) hx hb dX9_wayRound_106 (by decide) ?_
    refine lv_goto (tgt := 111) hx hb dX9_wayRound_107 (by decide) ?_
    exact n111 k58 hk58 x1 x2 x3 x4 x5 (1 : Int32) v_layer _ _ _ (lv_sub hl [0, 1, 2, 3, 4, 5] rfl) hG h
  have n110 : ∀ (k58 : Int32 → Int32 → Int32 → Int32 → Int32 → (Nat → Int32) → Option (Int32 × (Nat → Int32))) (hk58 : ∀ (x1 : Int32) (x2 : Int32) (x3 : Int32) (x4 : Int32) (x5 : Int32) (v_layer : Nat → Int32) (H : Heap) (locs : List Loc) (ls : Array Slot), lv_has ls 7 [(0, .ref (g.2.1 50)), (1, .int x1), (2, .int x2), (3, .int x3), (4, .int x4), (5, .int x5)] → GW g s (mkS σ [] [] [(60, v_layer)] []) H locs → k58 x1 x2 x3 x4 x5 v_layer = some (r, w_layer) → Wg p l e 0 0 s m args below meth c g (some (.int r)) (mkS σ [] [] [(60, w_layer)] []) H locs (F0 m 58 ls [])) (x1 : Int32) (x2 : Int32) (x3 : Int32) (x4 : Int32) (x5 : Int32) (v_layer : Nat → Int32) (H : Heap) (locs : List Loc) (ls : Array Slot), lv_has ls 7 [(0, .ref (g.2.1 50)), (1, .int x1), (2, .int x2), (3, .int x3), (4, .int x4), (5, .int x5)] → GW g s (mkS σ [] [] [(60, v_layer)] []) H locs → M_wayRound_n110 k58 x1 x2 x3 x4 x5 v_layer = some (r, w_layer) → Wg p l e 0 0 s m args below meth c g (some (.int r)) (mkS σ [] [] [(60, w_layer)] []) H locs (F0 m 110 ls []) := by
    intro k58 hk58 x1 x2 x3 x4 x5 v_layer H locs ls hl hG h
    unfold M_wayRound_n110 at h
    refine lv_iconst (v := (0 : Int32)) hx hb dX9_wayRound_110 (by decide) ?_
    exact n111 k58 hk58 x1 x2 x3 x4 x5 (0 : Int32) v_layer _ _ _ (lv_sub hl [0, 1, 2, 3, 4, 5] rfl) hG h
  have n156 : ∀ (k46 : Int32 → Int32 → Int32 → Int32 → (Nat → Int32) → Option (Int32 × (Nat → Int32))) (hk46 : ∀ (x1 : Int32) (x2 : Int32) (x3 : Int32) (x4 : Int32) (v_layer : Nat → Int32) (H : Heap) (locs : List Loc) (ls : Array Slot), lv_has ls 7 [(0, .ref (g.2.1 50)), (1, .int x1), (2, .int x2), (3, .int x3), (4, .int x4)] → GW g s (mkS σ [] [] [(60, v_layer)] []) H locs → k46 x1 x2 x3 x4 v_layer = some (r, w_layer) → Wg p l e 0 0 s m args below meth c g (some (.int r)) (mkS σ [] [] [(60, w_layer)] []) H locs (F0 m 46 ls [])) (x1 : Int32) (x2 : Int32) (x3 : Int32) (x4 : Int32) (v_layer : Nat → Int32) (H : Heap) (locs : List Loc) (ls : Array Slot), lv_has ls 7 [(0, .ref (g.2.1 50)), (1, .int x1), (2, .int x2), (3, .int x3), (4, .int x4)] → GW g s (mkS σ [] [] [(60, v_layer)] []) H locs → M_wayRound_n156 k46 x1 x2 x3 x4 v_layer = some (r, w_layer) → Wg p l e 0 0 s m args below meth c g (some (.int r)) (mkS σ [] [] [(60, w_layer)] []) H locs (F0 m 156 ls []) := by
    intro k46 hk46 x1 x2 x3 x4 v_layer H locs ls hl hG h
    unfold M_wayRound_n156 at h
    refine lv_iinc (v := (x4 + (1 : Int32))) (lv' := [(4, .int (x4 + (1 : Int32))), (0, .ref (g.2.1 50)), (1, .int x1), (2, .int x2), (3, .int x3)]) hx hb dX9_wayRound_156 hl (k := 4) rfl (congrArg (fun z => x4 + z) (by decide)) (Nat.le_of_ble_eq_true rfl) rfl (fun ls hl => ?_)
    refine lv_goto (tgt := 46) hx hb dX9_wayRound_159 (by decide) ?_
    exact hk46 x1 x2 x3 (x4 + (1 : Int32)) v_layer _ _ _ (lv_sub hl [1, 2, 3, 4, 0] rfl) hG h
  have n58 : ∀ (k46 : Int32 → Int32 → Int32 → Int32 → (Nat → Int32) → Option (Int32 × (Nat → Int32))) (hk46 : ∀ (x1 : Int32) (x2 : Int32) (x3 : Int32) (x4 : Int32) (v_layer : Nat → Int32) (H : Heap) (locs : List Loc) (ls : Array Slot), lv_has ls 7 [(0, .ref (g.2.1 50)), (1, .int x1), (2, .int x2), (3, .int x3), (4, .int x4)] → GW g s (mkS σ [] [] [(60, v_layer)] []) H locs → k46 x1 x2 x3 x4 v_layer = some (r, w_layer) → Wg p l e 0 0 s m args below meth c g (some (.int r)) (mkS σ [] [] [(60, w_layer)] []) H locs (F0 m 46 ls [])) (k58 : Int32 → Int32 → Int32 → Int32 → Int32 → (Nat → Int32) → Option (Int32 × (Nat → Int32))) (hk58 : ∀ (x1 : Int32) (x2 : Int32) (x3 : Int32) (x4 : Int32) (x5 : Int32) (v_layer : Nat → Int32) (H : Heap) (locs : List Loc) (ls : Array Slot), lv_has ls 7 [(0, .ref (g.2.1 50)), (1, .int x1), (2, .int x2), (3, .int x3), (4, .int x4), (5, .int x5)] → GW g s (mkS σ [] [] [(60, v_layer)] []) H locs → k58 x1 x2 x3 x4 x5 v_layer = some (r, w_layer) → Wg p l e 0 0 s m args below meth c g (some (.int r)) (mkS σ [] [] [(60, w_layer)] []) H locs (F0 m 58 ls [])) (x1 : Int32) (x2 : Int32) (x3 : Int32) (x4 : Int32) (x5 : Int32) (v_layer : Nat → Int32) (H : Heap) (locs : List Loc) (ls : Array Slot), lv_has ls 7 [(0, .ref (g.2.1 50)), (1, .int x1), (2, .int x2), (3, .int x3), (4, .int x4), (5, .int x5)] → GW g s (mkS σ [] [] [(60, v_layer)] []) H locs → M_wayRound_n58 k46 k58 (σ.1 3203) (σ.2.2.1 54) x1 x2 x3 x4 x5 v_layer = some (r, w_layer) → Wg p l e 0 0 s m args below meth c g (some (.int r)) (mkS σ [] [] [(60, w_layer)] []) H locs (F0 m 58 ls []) := by
    intro k46 hk46 k58 hk58 x1 x2 x3 x4 x5 v_layer H locs ls hl hG h
    unfold M_wayRound_n58 at h
    refine lv_iload hx hb dX9_wayRound_58 (lv_at hl 5 rfl) ?_
    refine lv_aload_n hx hb dX9_wayRound_60 rfl (lv_at hl 0 rfl) ?_
    refine gx_get (v := .int (σ.1 3203)) (C := RX9) (T := TX9) (N := 44) hx hb hts mc_X9 hown hK hG (ga_50 g _) rfl 3 (by decide) hw1 rfl rfl dX9_wayRound_61 ?_
    refine lv_icmp_ge (tgt := 156) hx hb dX9_wayRound_64 (by decide) (fun c7 => ?_) (fun c7 => ?_)
    · have h := ite_t c7 h
      exact n156 k46 hk46 x1 x2 x3 x4 v_layer _ _ _ (lv_sub hl [0, 1, 2, 3, 4] rfl) hG h
    · have h := ite_f c7 h
      refine lv_aload_n hx hb dX9_wayRound_67 rfl (lv_at hl 0 rfl) ?_
      refine gx_get (v := .ref (g.2.1 60)) (C := RX9) (T := TX9) (N := 44) hx hb hts mc_X9 hown hK hG (ga_50 g _) rfl 16 (by decide) hw0 rfl rfl dX9_wayRound_68 ?_
      refine lv_iload hx hb dX9_wayRound_71 (lv_at hl 4 rfl) ?_
      obtain ⟨hg8, h⟩ := gd_some h
      refine gx_iald (f := v_layer) hx hb hK hG (ga_60 g _) hg8 dX9_wayRound_73 ?_
      refine lv_iload_n hx hb dX9_wayRound_74 rfl (lv_at hl 3 rfl) ?_
      refine lv_icmp_ne (tgt := 156) hx hb dX9_wayRound_75 (by decide) (fun c9 => ?_) (fun c9 => ?_)
      · have h := ite_f c9 h
        exact n156 k46 hk46 x1 x2 x3 x4 v_layer _ _ _ (lv_sub hl [0, 1, 2, 3, 4] rfl) hG h
      · have h := ite_t c9 h
        refine lv_aload_n hx hb dX9_wayRound_78 rfl (lv_at hl 0 rfl) ?_
        refine gx_get (v := .ref (g.2.1 54)) (C := RX9) (T := TX9) (N := 44) hx hb hts mc_X9 hown hK hG (ga_50 g _) rfl 4 (by decide) hw2 rfl rfl dX9_wayRound_79 ?_
        refine lv_bipush (v := (32 : Int32)) hx hb dX9_wayRound_82 (by decide) ?_
        refine lv_iload hx hb dX9_wayRound_84 (lv_at hl 4 rfl) ?_
        refine lv_imul hx hb dX9_wayRound_86 ?_
        refine lv_iload hx hb dX9_wayRound_87 (lv_at hl 5 rfl) ?_
        refine lv_iadd hx hb dX9_wayRound_89 ?_
        obtain ⟨hg10, h⟩ := gd_some h
        refine gx_zald (f := (σ.2.2.1 54)) hx hb hK hG (ga_54 g _) hg10 dX9_wayRound_90 ?_
        refine lv_if_eq (tgt := 110) hx hb dX9_wayRound_91 (by decide) (fun c11 => ?_) (fun c11 => ?_)
        · have h := ite_t c11 h
          exact n110 k58 hk58 x1 x2 x3 x4 x5 v_layer _ _ _ (lv_sub hl [0, 1, 2, 3, 4, 5] rfl) hG h
        · have h := ite_f c11 h
          refine lv_iload hx hb dX9_wayRound_94 (lv_at hl 4 rfl) ?_
          refine lv_iload_n hx hb dX9_wayRound_96 rfl (lv_at hl 1 rfl) ?_
          refine lv_icmp_ne (tgt := 106) hx hb dX9_wayRound_97 (by decide) (fun c12 => ?_) (fun c12 => ?_)
          · have h := ite_f c12 h
            exact n106 k58 hk58 x1 x2 x3 x4 x5 v_layer _ _ _ (lv_sub hl [0, 1, 2, 3, 4, 5] rfl) hG h
          · have h := ite_t c12 h
            refine lv_iload hx hb dX9_wayRound_100 (lv_at hl 5 rfl) ?_
            refine lv_iload_n hx hb dX9_wayRound_102 rfl (lv_at hl 2 rfl) ?_
            refine lv_icmp_eq (tgt := 110) hx hb dX9_wayRound_103 (by decide) (fun c13 => ?_) (fun c13 => ?_)
            · have h := ite_t c13 h
              exact n110 k58 hk58 x1 x2 x3 x4 x5 v_layer _ _ _ (lv_sub hl [0, 1, 2, 3, 4, 5] rfl) hG h
            · have h := ite_f c13 h
              exact n106 k58 hk58 x1 x2 x3 x4 x5 v_layer _ _ _ (lv_sub hl [0, 1, 2, 3, 4, 5] rfl) hG h
  have l58 : ∀ (k46 : Int32 → Int32 → Int32 → Int32 → (Nat → Int32) → Option (Int32 × (Nat → Int32))) (hk46 : ∀ (x1 : Int32) (x2 : Int32) (x3 : Int32) (x4 : Int32) (v_layer : Nat → Int32) (H : Heap) (locs : List Loc) (ls : Array Slot), lv_has ls 7 [(0, .ref (g.2.1 50)), (1, .int x1), (2, .int x2), (3, .int x3), (4, .int x4)] → GW g s (mkS σ [] [] [(60, v_layer)] []) H locs → k46 x1 x2 x3 x4 v_layer = some (r, w_layer) → Wg p l e 0 0 s m args below meth c g (some (.int r)) (mkS σ [] [] [(60, w_layer)] []) H locs (F0 m 46 ls [])) (F : Nat) (x1 : Int32) (x2 : Int32) (x3 : Int32) (x4 : Int32) (x5 : Int32) (v_layer : Nat → Int32) (H : Heap) (locs : List Loc) (ls : Array Slot), lv_has ls 7 [(0, .ref (g.2.1 50)), (1, .int x1), (2, .int x2), (3, .int x3), (4, .int x4), (5, .int x5)] → GW g s (mkS σ [] [] [(60, v_layer)] []) H locs → M_wayRound_l58 k46 (σ.1 3203) (σ.2.2.1 54) F x1 x2 x3 x4 x5 v_layer = some (r, w_layer) → Wg p l e 0 0 s m args below meth c g (some (.int r)) (mkS σ [] [] [(60, w_layer)] []) H locs (F0 m 58 ls []) := by
    intro k46 hk46 F
    induction F with
    | zero => intro x1 x2 x3 x4 x5 v_layer H locs ls hl hG h; exact no_some h
    | succ F ih => intro x1 x2 x3 x4 x5 v_layer H locs ls hl hG h; exact n58 k46 hk46 (fun x1 x2 x3 x4 x5 v_layer => M_wayRound_l58 k46 (σ.1 3203) (σ.2.2.1 54) F x1 x2 x3 x4 x5 v_layer) ih x1 x2 x3 x4 x5 v_layer H locs ls hl hG h
  have n162 : ∀ (k35 : Int32 → Int32 → Int32 → (Nat → Int32) → Option (Int32 × (Nat → Int32))) (hk35 : ∀ (x1 : Int32) (x2 : Int32) (x3 : Int32) (v_layer : Nat → Int32) (H : Heap) (locs : List Loc) (ls : Array Slot), lv_has ls 7 [(0, .ref (g.2.1 50)), (1, .int x1), (2, .int x2), (3, .int x3)] → GW g s (mkS σ [] [] [(60, v_layer)] []) H locs → k35 x1 x2 x3 v_layer = some (r, w_layer) → Wg p l e 0 0 s m args below meth c g (some (.int r)) (mkS σ [] [] [(60, w_layer)] []) H locs (F0 m 35 ls [])) (x1 : Int32) (x2 : Int32) (x3 : Int32) (v_layer : Nat → Int32) (H : Heap) (locs : List Loc) (ls : Array Slot), lv_has ls 7 [(0, .ref (g.2.1 50)), (1, .int x1), (2, .int x2), (3, .int x3)] → GW g s (mkS σ [] [] [(60, v_layer)] []) H locs → M_wayRound_n162 k35 x1 x2 x3 v_layer = some (r, w_layer) → Wg p l e 0 0 s m args below meth c g (some (.int r)) (mkS σ [] [] [(60, w_layer)] []) H locs (F0 m 162 ls []) := by
    intro k35 hk35 x1 x2 x3 v_layer H locs ls hl hG h
    unfold M_wayRound_n162 at h
    refine lv_iinc (v := (x3 + (1 : Int32))) (lv' := [(3, .int (x3 + (1 : Int32))), (0, .ref (g.2.1 50)), (1, .int x1), (2, .int x2)]) hx hb dX9_wayRound_162 hl (k := 3) rfl (congrArg (fun z => x3 + z) (by decide)) (Nat.le_of_ble_eq_true rfl) rfl (fun ls hl => ?_)
    refine lv_goto (tgt := 35) hx hb dX9_wayRound_165 (by decide) ?_
    exact hk35 x1 x2 (x3 + (1 : Int32)) v_layer _ _ _ (lv_sub hl [1, 2, 3, 0] rfl) hG h
  have n46 : ∀ (k35 : Int32 → Int32 → Int32 → (Nat → Int32) → Option (Int32 × (Nat → Int32))) (hk35 : ∀ (x1 : Int32) (x2 : Int32) (x3 : Int32) (v_layer : Nat → Int32) (H : Heap) (locs : List Loc) (ls : Array Slot), lv_has ls 7 [(0, .ref (g.2.1 50)), (1, .int x1), (2, .int x2), (3, .int x3)] → GW g s (mkS σ [] [] [(60, v_layer)] []) H locs → k35 x1 x2 x3 v_layer = some (r, w_layer) → Wg p l e 0 0 s m args below meth c g (some (.int r)) (mkS σ [] [] [(60, w_layer)] []) H locs (F0 m 35 ls [])) (k46 : Int32 → Int32 → Int32 → Int32 → (Nat → Int32) → Option (Int32 × (Nat → Int32))) (hk46 : ∀ (x1 : Int32) (x2 : Int32) (x3 : Int32) (x4 : Int32) (v_layer : Nat → Int32) (H : Heap) (locs : List Loc) (ls : Array Slot), lv_has ls 7 [(0, .ref (g.2.1 50)), (1, .int x1), (2, .int x2), (3, .int x3), (4, .int x4)] → GW g s (mkS σ [] [] [(60, v_layer)] []) H locs → k46 x1 x2 x3 x4 v_layer = some (r, w_layer) → Wg p l e 0 0 s m args below meth c g (some (.int r)) (mkS σ [] [] [(60, w_layer)] []) H locs (F0 m 46 ls [])) (x1 : Int32) (x2 : Int32) (x3 : Int32) (x4 : Int32) (v_layer : Nat → Int32) (H : Heap) (locs : List Loc) (ls : Array Slot), lv_has ls 7 [(0, .ref (g.2.1 50)), (1, .int x1), (2, .int x2), (3, .int x3), (4, .int x4)] → GW g s (mkS σ [] [] [(60, v_layer)] []) H locs → M_wayRound_n46 k35 k46 (σ.1 3203) (σ.2.2.1 54) x1 x2 x3 x4 v_layer = some (r, w_layer) → Wg p l e 0 0 s m args below meth c g (some (.int r)) (mkS σ [] [] [(60, w_layer)] []) H locs (F0 m 46 ls []) := by
    intro k35 hk35 k46 hk46 x1 x2 x3 x4 v_layer H locs ls hl hG h
    unfold M_wayRound_n46 at h
    refine lv_iload hx hb dX9_wayRound_46 (lv_at hl 4 rfl) ?_
    refine lv_aload_n hx hb dX9_wayRound_48 rfl (lv_at hl 0 rfl) ?_
    refine gx_get (v := .int (σ.1 3203)) (C := RX9) (T := TX9) (N := 44) hx hb hts mc_X9 hown hK hG (ga_50 g _) rfl 3 (by decide) hw1 rfl rfl dX9_wayRound_49 ?_
    refine lv_icmp_ge (tgt := 162) hx hb dX9_wayRound_52 (by decide) (fun c14 => ?_) (fun c14 => ?_)
    · have h := ite_t c14 h
      exact n162 k35 hk35 x1 x2 x3 v_layer _ _ _ (lv_sub hl [0, 1, 2, 3] rfl) hG h
    · have h := ite_f c14 h
      refine lv_iconst (v := (0 : Int32)) hx hb dX9_wayRound_55 (by decide) ?_
      refine lv_istore (lv' := [(5, .int (0 : Int32)), (0, .ref (g.2.1 50)), (1, .int x1), (2, .int x2), (3, .int x3), (4, .int x4)]) hx hb dX9_wayRound_56 hl (Nat.le_of_ble_eq_true rfl) rfl (fun ls hl => ?_)
      exact l58 k46 hk46 FUEL x1 x2 x3 x4 (0 : Int32) v_layer _ _ _ (lv_sub hl [1, 2, 3, 4, 5, 0] rfl) hG h
  have l46 : ∀ (k35 : Int32 → Int32 → Int32 → (Nat → Int32) → Option (Int32 × (Nat → Int32))) (hk35 : ∀ (x1 : Int32) (x2 : Int32) (x3 : Int32) (v_layer : Nat → Int32) (H : Heap) (locs : List Loc) (ls : Array Slot), lv_has ls 7 [(0, .ref (g.2.1 50)), (1, .int x1), (2, .int x2), (3, .int x3)] → GW g s (mkS σ [] [] [(60, v_layer)] []) H locs → k35 x1 x2 x3 v_layer = some (r, w_layer) → Wg p l e 0 0 s m args below meth c g (some (.int r)) (mkS σ [] [] [(60, w_layer)] []) H locs (F0 m 35 ls [])) (F : Nat) (x1 : Int32) (x2 : Int32) (x3 : Int32) (x4 : Int32) (v_layer : Nat → Int32) (H : Heap) (locs : List Loc) (ls : Array Slot), lv_has ls 7 [(0, .ref (g.2.1 50)), (1, .int x1), (2, .int x2), (3, .int x3), (4, .int x4)] → GW g s (mkS σ [] [] [(60, v_layer)] []) H locs → M_wayRound_l46 k35 (σ.1 3203) (σ.2.2.1 54) F x1 x2 x3 x4 v_layer = some (r, w_layer) → Wg p l e 0 0 s m args below meth c g (some (.int r)) (mkS σ [] [] [(60, w_layer)] []) H locs (F0 m 46 ls []) := by
    intro k35 hk35 F
    induction F with
    | zero => intro x1 x2 x3 x4 v_layer H locs ls hl hG h; exact no_some h
    | succ F ih => intro x1 x2 x3 x4 v_layer H locs ls hl hG h; exact n46 k35 hk35 (fun x1 x2 x3 x4 v_layer => M_wayRound_l46 k35 (σ.1 3203) (σ.2.2.1 54) F x1 x2 x3 x4 v_layer) ih x1 x2 x3 x4 v_layer H locs ls hl hG h
  have n168 : ∀ (x2 : Int32) (v_layer : Nat → Int32) (H : Heap) (locs : List Loc) (ls : Array Slot), lv_has ls 7 [(0, .ref (g.2.1 50)), (2, .int x2)] → GW g s (mkS σ [] [] [(60, v_layer)] []) H locs → M_wayRound_n168 x2 v_layer = some (r, w_layer) → Wg p l e 0 0 s m args below meth c g (some (.int r)) (mkS σ [] [] [(60, w_layer)] []) H locs (F0 m 168 ls []) := by
    intro x2 v_layer H locs ls hl hG h
    unfold M_wayRound_n168 at h
    refine lv_aload_n hx hb dX9_wayRound_168 rfl (lv_at hl 0 rfl) ?_
    refine gx_get (v := .ref (g.2.1 60)) (C := RX9) (T := TX9) (N := 44) hx hb hts mc_X9 hown hK hG (ga_50 g _) rfl 16 (by decide) hw0 rfl rfl dX9_wayRound_169 ?_
    refine lv_iload_n hx hb dX9_wayRound_172 rfl (lv_at hl 1 rfl) ?_
    obtain ⟨hg15, h⟩ := gd_some h
    refine gx_iald (f := v_layer) hx hb hK hG (ga_60 g _) hg15 dX9_wayRound_173 ?_
    cases h
    exact gx_iret hx hb hr hlocks hG dX9_wayRound_174
  have n35 : ∀ (k35 : Int32 → Int32 → Int32 → (Nat → Int32) → Option (Int32 × (Nat → Int32))) (hk35 : ∀ (x1 : Int32) (x2 : Int32) (x3 : Int32) (v_layer : Nat → Int32) (H : Heap) (locs : List Loc) (ls : Array Slot), lv_has ls 7 [(0, .ref (g.2.1 50)), (1, .int x1), (2, .int x2), (3, .int x3)] → GW g s (mkS σ [] [] [(60, v_layer)] []) H locs → k35 x1 x2 x3 v_layer = some (r, w_layer) → Wg p l e 0 0 s m args below meth c g (some (.int r)) (mkS σ [] [] [(60, w_layer)] []) H locs (F0 m 35 ls [])) (x1 : Int32) (x2 : Int32) (x3 : Int32) (v_layer : Nat → Int32) (H : Heap) (locs : List Loc) (ls : Array Slot), lv_has ls 7 [(0, .ref (g.2.1 50)), (1, .int x1), (2, .int x2), (3, .int x3)] → GW g s (mkS σ [] [] [(60, v_layer)] []) H locs → M_wayRound_n35 k35 (σ.1 3203) (σ.2.2.1 54) x1 x2 x3 v_layer = some (r, w_layer) → Wg p l e 0 0 s m args below meth c g (some (.int r)) (mkS σ [] [] [(60, w_layer)] []) H locs (F0 m 35 ls []) := by
    intro k35 hk35 x1 x2 x3 v_layer H locs ls hl hG h
    unfold M_wayRound_n35 at h
    refine lv_iload_n hx hb dX9_wayRound_35 rfl (lv_at hl 3 rfl) ?_
    refine lv_aload_n hx hb dX9_wayRound_36 rfl (lv_at hl 0 rfl) ?_
    refine gx_get (v := .int (σ.1 3203)) (C := RX9) (T := TX9) (N := 44) hx hb hts mc_X9 hown hK hG (ga_50 g _) rfl 3 (by decide) hw1 rfl rfl dX9_wayRound_37 ?_
    refine lv_icmp_ge (tgt := 168) hx hb dX9_wayRound_40 (by decide) (fun c16 => ?_) (fun c16 => ?_)
    · have h := ite_t c16 h
      exact n168 x2 v_layer _ _ _ (lv_sub hl [0, 2] rfl) hG h
    · have h := ite_f c16 h
      refine lv_iconst (v := (0 : Int32)) hx hb dX9_wayRound_43 (by decide) ?_
      refine lv_istore (lv' := [(4, .int (0 : Int32)), (0, .ref (g.2.1 50)), (1, .int x1), (2, .int x2), (3, .int x3)]) hx hb dX9_wayRound_44 hl (Nat.le_of_ble_eq_true rfl) rfl (fun ls hl => ?_)
      exact l46 k35 hk35 FUEL x1 x2 x3 (0 : Int32) v_layer _ _ _ (lv_sub hl [1, 2, 3, 4, 0] rfl) hG h
  have l35 : ∀  (F : Nat) (x1 : Int32) (x2 : Int32) (x3 : Int32) (v_layer : Nat → Int32) (H : Heap) (locs : List Loc) (ls : Array Slot), lv_has ls 7 [(0, .ref (g.2.1 50)), (1, .int x1), (2, .int x2), (3, .int x3)] → GW g s (mkS σ [] [] [(60, v_layer)] []) H locs → M_wayRound_l35 (σ.1 3203) (σ.2.2.1 54) F x1 x2 x3 v_layer = some (r, w_layer) → Wg p l e 0 0 s m args below meth c g (some (.int r)) (mkS σ [] [] [(60, w_layer)] []) H locs (F0 m 35 ls []) := by
    intro F
    induction F with
    | zero => intro x1 x2 x3 v_layer H locs ls hl hG h; exact no_some h
    | succ F ih => intro x1 x2 x3 v_layer H locs ls hl hG h; exact n35 (fun x1 x2 x3 v_layer => M_wayRound_l35 (σ.1 3203) (σ.2.2.1 54) F x1 x2 x3 v_layer) ih x1 x2 x3 v_layer H locs ls hl hG h
  have n33 : ∀ (x1 : Int32) (x2 : Int32) (v_layer : Nat → Int32) (H : Heap) (locs : List Loc) (ls : Array Slot), lv_has ls 7 [(0, .ref (g.2.1 50)), (1, .int x1), (2, .int x2)] → GW g s (mkS σ [] [] [(60, v_layer)] []) H locs → M_wayRound_n33 (σ.1 3203) (σ.2.2.1 54) x1 x2 v_layer = some (r, w_layer) → Wg p l e 0 0 s m args below meth c g (some (.int r)) (mkS σ [] [] [(60, w_layer)] []) H locs (F0 m 33 ls []) := by
    intro x1 x2 v_layer H locs ls hl hG h
    unfold M_wayRound_n33 at h
    refine lv_iconst (v := (0 : Int32)) hx hb dX9_wayRound_33 (by decide) ?_
    refine lv_istore_n (lv' := [(3, .int (0 : Int32)), (0, .ref (g.2.1 50)), (1, .int x1), (2, .int x2)]) hx hb dX9_wayRound_34 rfl hl (Nat.le_of_ble_eq_true rfl) rfl (fun ls hl => ?_)
    exact l35 FUEL x1 x2 (0 : Int32) v_layer _ _ _ (lv_sub hl [1, 2, 3, 0] rfl) hG h
  have n2 : ∀ (k2 : Int32 → Int32 → Int32 → (Nat → Int32) → Option (Int32 × (Nat → Int32))) (hk2 : ∀ (x1 : Int32) (x2 : Int32) (x3 : Int32) (v_layer : Nat → Int32) (H : Heap) (locs : List Loc) (ls : Array Slot), lv_has ls 7 [(0, .ref (g.2.1 50)), (1, .int x1), (2, .int x2), (3, .int x3)] → GW g s (mkS σ [] [] [(60, v_layer)] []) H locs → k2 x1 x2 x3 v_layer = some (r, w_layer) → Wg p l e 0 0 s m args below meth c g (some (.int r)) (mkS σ [] [] [(60, w_layer)] []) H locs (F0 m 2 ls [])) (x1 : Int32) (x2 : Int32) (x3 : Int32) (v_layer : Nat → Int32) (H : Heap) (locs : List Loc) (ls : Array Slot), lv_has ls 7 [(0, .ref (g.2.1 50)), (1, .int x1), (2, .int x2), (3, .int x3)] → GW g s (mkS σ [] [] [(60, v_layer)] []) H locs → M_wayRound_n2 k2 (σ.1 3203) (σ.2.2.1 54) x1 x2 x3 v_layer = some (r, w_layer) → Wg p l e 0 0 s m args below meth c g (some (.int r)) (mkS σ [] [] [(60, w_layer)] []) H locs (F0 m 2 ls []) := by
    intro k2 hk2 x1 x2 x3 v_layer H locs ls hl hG h
    unfold M_wayRound_n2 at h
    refine lv_iload_n hx hb dX9_wayRound_2 rfl (lv_at hl 3 rfl) ?_
    refine lv_aload_n hx hb dX9_wayRound_3 rfl (lv_at hl 0 rfl) ?_
    refine gx_get (v := .int (σ.1 3203)) (C := RX9) (T := TX9) (N := 44) hx hb hts mc_X9 hown hK hG (ga_50 g _) rfl 3 (by decide) hw1 rfl rfl dX9_wayRound_4 ?_
    refine lv_icmp_ge (tgt := 33) hx hb dX9_wayRound_7 (by decide) (fun c17 => ?_) (fun c17 => ?_)
    · have h := ite_t c17 h
      exact n33 x1 x2 v_layer _ _ _ (lv_sub hl [0, 1, 2] rfl) hG h
    · have h := ite_f c17 h
      refine lv_aload_n hx hb dX9_wayRound_10 rfl (lv_at hl 0 rfl) ?_
      refine gx_get (v := .ref (g.2.1 60)) (C := RX9) (T := TX9) (N := 44) hx hb hts mc_X9 hown hK hG (ga_50 g _) rfl 16 (by decide) hw0 rfl rfl dX9_wayRound_11 ?_
      refine lv_iload_n hx hb dX9_wayRound_14 rfl (lv_at hl 3 rfl) ?_
      refine lv_iload_n hx hb dX9_wayRound_15 rfl (lv_at hl 3 rfl) ?_
      refine lv_iload_n hx hb dX9_wayRound_16 rfl (lv_at hl 1 rfl) ?_
      refine lv_icmp_ne (tgt := 24) hx hb dX9_wayRound_17 (by decide) (fun c18 => ?_) (fun c18 => ?_)
      · have h := ite_f c18 h
        refine lv_bipush (v := (99 : Int32)) hx hb dX9_wayRound_24 (by decide) ?_
        exact n26 k2 hk2 x1 x2 x3 x3 (99 : Int32) v_layer _ _ _ (lv_sub hl [0, 1, 2, 3] rfl) hG h
      · have h := ite_t c18 h
        refine lv_iconst (v := (0 : Int32)) hx hb dX9_wayRound_20 (by decide) ?_
        refine lv_goto (tgt := 26) hx hb dX9_wayRound_21 (by decide) ?_
        exact n26 k2 hk2 x1 x2 x3 x3 (0 : Int32) v_layer _ _ _ (lv_sub hl [0, 1, 2, 3] rfl) hG h
  have l2 : ∀  (F : Nat) (x1 : Int32) (x2 : Int32) (x3 : Int32) (v_layer : Nat → Int32) (H : Heap) (locs : List Loc) (ls : Array Slot), lv_has ls 7 [(0, .ref (g.2.1 50)), (1, .int x1), (2, .int x2), (3, .int x3)] → GW g s (mkS σ [] [] [(60, v_layer)] []) H locs → M_wayRound_l2 (σ.1 3203) (σ.2.2.1 54) F x1 x2 x3 v_layer = some (r, w_layer) → Wg p l e 0 0 s m args below meth c g (some (.int r)) (mkS σ [] [] [(60, w_layer)] []) H locs (F0 m 2 ls []) := by
    intro F
    induction F with
    | zero => intro x1 x2 x3 v_layer H locs ls hl hG h; exact no_some h
    | succ F ih => intro x1 x2 x3 v_layer H locs ls hl hG h; exact n2 (fun x1 x2 x3 v_layer => M_wayRound_l2 (σ.1 3203) (σ.2.2.1 54) F x1 x2 x3 v_layer) ih x1 x2 x3 v_layer H locs ls hl hG h
  refine lv_iconst (v := (0 : Int32)) hx hb dX9_wayRound_0 (by decide) ?_
  refine lv_istore_n (lv' := [(3, .int (0 : Int32)), (0, .ref (g.2.1 50)), (1, .int x1), (2, .int x2)]) hx hb dX9_wayRound_1 rfl hl (Nat.le_of_ble_eq_true rfl) rfl (fun ls hl => ?_)
  exact l2 FUEL x1 x2 (0 : Int32) (σ.2.2.1 60) _ _ _ (lv_sub hl [1, 2, 3, 0] rfl) hG h

set_option maxHeartbeats 4000000 in
set_option maxRecDepth 100000 in
theorem c_M_round (l : Launch) (g : GC) (σ : St) (r : Int32) (w_layer : Nat → Int32) (h : M_round (σ.1 3203) (σ.2.2.1 60) (σ.2.2.1 54) = some (r, w_layer)) : Cn l g yX9_round (Cond.code yX9_round cX9_round 5 (some .int) :: wG) 1 26 [.ref (g.2.1 50)] σ (some (.int r)) (mkS σ [] [] [(60, w_layer)] []) := by
  unfold Cn
  refine Met.ofW (cc := cX9_round) (maxL := 5) (ret := (some .int)) (by decide) rfl ?_
  intro p e s m args below meth c s₁ B hml hv
  obtain ⟨hargs, hP0, hK⟩ := hv
  have hx := B.exec
  have hb := B.bytes
  have hr := B.returns
  have hts : ∀ w ∈ wG, w.before args s = true := fun w h => atoms_spec (ws := (Cond.code yX9_round cX9_round 5 (some .int) :: wG)) B.pre w (List.mem_cons_of_mem _ h)
  have hown : s.vm.findClass RX9 = some m.cls := findClass_of_methodNamed B.named
  have hlocks := B.notSynchronized
  have hS9 : CallFix p m c cX9_round 5 s args wG RX9 := ⟨hx, hb, hml, hown, hts⟩
  have hw0 := hts _ mw_4_143
  have hw1 := hts _ mw_4_142
  have hf9 : entryFrame m args 5 = _ := (congrArg (fun a => entryFrame m a 5) hargs).trans (lg_entry_eq m [.ref (g.2.1 50)] 5)
  show Wg p l e 1 26 s m args below meth c g (some (.int r)) (mkS σ [] [] [(60, w_layer)] []) s.heap [] (entryFrame m args 5)
  rw [hf9]
  have hl := lv_entry ([.ref (g.2.1 50)]) (n := 5) (Nat.le_of_ble_eq_true rfl)
  generalize (lg_sl ([.ref (g.2.1 50)]) ++ List.replicate (5 - (lg_sl ([.ref (g.2.1 50)])).length) Slot.unset).toArray = ls at hl ⊢
  have hl : lv_has ls 5 [(0, .ref (g.2.1 50))] := hl
  have hG : GW g s σ s.heap [] := ⟨hP0, va_S.rf⟩
  have hG : GW g s (mkS σ [] [] [(60, (σ.2.2.1 60))] []) s.heap [] := GW_self [] [] [60] [] hG
  unfold M_round at h
  have n59 : ∀ (k15 : Int32 → Int32 → Int32 → (Nat → Int32) → Option (Int32 × (Nat → Int32))) (hk15 : ∀ (x1 : Int32) (x2 : Int32) (x3 : Int32) (v_layer : Nat → Int32) (H : Heap) (locs : List Loc) (ls : Array Slot), lv_has ls 5 [(0, .ref (g.2.1 50)), (1, .int x1), (2, .int x2), (3, .int x3)] → GW g s (mkS σ [] [] [(60, v_layer)] []) H locs → k15 x1 x2 x3 v_layer = some (r, w_layer) → Wg p l e 1 26 s m args below meth c g (some (.int r)) (mkS σ [] [] [(60, w_layer)] []) H locs (F0 m 15 ls [])) (x1 : Int32) (x2 : Int32) (x3 : Int32) (v_layer : Nat → Int32) (H : Heap) (locs : List Loc) (ls : Array Slot), lv_has ls 5 [(0, .ref (g.2.1 50)), (1, .int x1), (2, .int x2), (3, .int x3)] → GW g s (mkS σ [] [] [(60, v_layer)] []) H locs → M_round_n59 k15 x1 x2 x3 v_layer = some (r, w_layer) → Wg p l e 1 26 s m args below meth c g (some (.int r)) (mkS σ [] [] [(60, w_layer)] []) H locs (F0 m 59 ls []) := by
    intro k15 hk15 x1 x2 x3 v_layer H locs ls hl hG h
    unfold M_round_n59 at h
    refine lv_iinc (v := (x3 + (1 : Int32))) (lv' := [(3, .int (x3 + (1 : Int32))), (0, .ref (g.2.1 50)), (1, .int x1), (2, .int x2)]) hx hb dX9_round_59 hl (k := 3) rfl (congrArg (fun z => x3 + z) (by decide)) (Nat.le_of_ble_eq_true rfl) rfl (fun ls hl => ?_)
    refine lv_goto (tgt := 15) hx hb dX9_round_62 (by decide) ?_
    exact hk15 x1 x2 (x3 + (1 : Int32)) v_layer _ _ _ (lv_sub hl [1, 2, 3, 0] rfl) hG h
  have n58 : ∀ (k15 : Int32 → Int32 → Int32 → (Nat → Int32) → Option (Int32 × (Nat → Int32))) (hk15 : ∀ (x1 : Int32) (x2 : Int32) (x3 : Int32) (v_layer : Nat → Int32) (H : Heap) (locs : List Loc) (ls : Array Slot), lv_has ls 5 [(0, .ref (g.2.1 50)), (1, .int x1), (2, .int x2), (3, .int x3)] → GW g s (mkS σ [] [] [(60, v_layer)] []) H locs → k15 x1 x2 x3 v_layer = some (r, w_layer) → Wg p l e 1 26 s m args below meth c g (some (.int r)) (mkS σ [] [] [(60, w_layer)] []) H locs (F0 m 15 ls [])) (x2 : Int32) (x3 : Int32) (t0 : Int32) (v_layer : Nat → Int32) (H : Heap) (locs : List Loc) (ls : Array Slot), lv_has ls 5 [(0, .ref (g.2.1 50)), (2, .int x2), (3, .int x3)] → GW g s (mkS σ [] [] [(60, v_layer)] []) H locs → M_round_n58 k15 x2 x3 t0 v_layer = some (r, w_layer) → Wg p l e 1 26 s m args below meth c g (some (.int r)) (mkS σ [] [] [(60, w_layer)] []) H locs (F0 m 58 ls [.int t0]) := by
    intro k15 hk15 x2 x3 t0 v_layer H locs ls hl hG h
    unfold M_round_n58 at h
    refine lv_istore_n (lv' := [(1, .int t0), (0, .ref (g.2.1 50)), (2, .int x2), (3, .int x3)]) hx hb dX9_round_58 rfl hl (Nat.le_of_ble_eq_true rfl) rfl (fun ls hl => ?_)
    exact n59 k15 hk15 t0 x2 x3 v_layer _ _ _ (lv_sub hl [1, 0, 2, 3] rfl) hG h
  have n65 : ∀ (k5 : Int32 → Int32 → (Nat → Int32) → Option (Int32 × (Nat → Int32))) (hk5 : ∀ (x1 : Int32) (x2 : Int32) (v_layer : Nat → Int32) (H : Heap) (locs : List Loc) (ls : Array Slot), lv_has ls 5 [(0, .ref (g.2.1 50)), (1, .int x1), (2, .int x2)] → GW g s (mkS σ [] [] [(60, v_layer)] []) H locs → k5 x1 x2 v_layer = some (r, w_layer) → Wg p l e 1 26 s m args below meth c g (some (.int r)) (mkS σ [] [] [(60, w_layer)] []) H locs (F0 m 5 ls [])) (x1 : Int32) (x2 : Int32) (v_layer : Nat → Int32) (H : Heap) (locs : List Loc) (ls : Array Slot), lv_has ls 5 [(0, .ref (g.2.1 50)), (1, .int x1), (2, .int x2)] → GW g s (mkS σ [] [] [(60, v_layer)] []) H locs → M_round_n65 k5 x1 x2 v_layer = some (r, w_layer) → Wg p l e 1 26 s m args below meth c g (some (.int r)) (mkS σ [] [] [(60, w_layer)] []) H locs (F0 m 65 ls []) := by
    intro k5 hk5 x1 x2 v_layer H locs ls hl hG h
    unfold M_round_n65 at h
    refine lv_iinc (v := (x2 + (1 : Int32))) (lv' := [(2, .int (x2 + (1 : Int32))), (0, .ref (g.2.1 50)), (1, .int x1)]) hx hb dX9_round_65 hl (k := 2) rfl (congrArg (fun z => x2 + z) (by decide)) (Nat.le_of_ble_eq_true rfl) rfl (fun ls hl => ?_)
    refine lv_goto (tgt := 5) hx hb dX9_round_68 (by decide) ?_
    exact hk5 x1 (x2 + (1 : Int32)) v_layer _ _ _ (lv_sub hl [1, 2, 0] rfl) hG h
  have n15 : ∀ (k5 : Int32 → Int32 → (Nat → Int32) → Option (Int32 × (Nat → Int32))) (hk5 : ∀ (x1 : Int32) (x2 : Int32) (v_layer : Nat → Int32) (H : Heap) (locs : List Loc) (ls : Array Slot), lv_has ls 5 [(0, .ref (g.2.1 50)), (1, .int x1), (2, .int x2)] → GW g s (mkS σ [] [] [(60, v_layer)] []) H locs → k5 x1 x2 v_layer = some (r, w_layer) → Wg p l e 1 26 s m args below meth c g (some (.int r)) (mkS σ [] [] [(60, w_layer)] []) H locs (F0 m 5 ls [])) (k15 : Int32 → Int32 → Int32 → (Nat → Int32) → Option (Int32 × (Nat → Int32))) (hk15 : ∀ (x1 : Int32) (x2 : Int32) (x3 : Int32) (v_layer : Nat → Int32) (H : Heap) (locs : List Loc) (ls : Array Slot), lv_has ls 5 [(0, .ref (g.2.1 50)), (1, .int x1), (2, .int x2), (3, .int x3)] → GW g s (mkS σ [] [] [(60, v_layer)] []) H locs → k15 x1 x2 x3 v_layer = some (r, w_layer) → Wg p l e 1 26 s m args below meth c g (some (.int r)) (mkS σ [] [] [(60, w_layer)] []) H locs (F0 m 15 ls [])) (x1 : Int32) (x2 : Int32) (x3 : Int32) (v_layer : Nat → Int32) (H : Heap) (locs : List Loc) (ls : Array Slot), lv_has ls 5 [(0, .ref (g.2.1 50)), (1, .int x1), (2, .int x2), (3, .int x3)] → GW g s (mkS σ [] [] [(60, v_layer)] []) H locs → M_round_n15 k5 k15 (σ.1 3203) (σ.2.2.1 54) x1 x2 x3 v_layer = some (r, w_layer) → Wg p l e 1 26 s m args below meth c g (some (.int r)) (mkS σ [] [] [(60, w_layer)] []) H locs (F0 m 15 ls []) := by
    intro k5 hk5 k15 hk15 x1 x2 x3 v_layer H locs ls hl hG h
    unfold M_round_n15 at h
    refine lv_iload_n hx hb dX9_round_15 rfl (lv_at hl 3 rfl) ?_
    refine lv_iload_n hx hb dX9_round_16 rfl (lv_at hl 2 rfl) ?_
    refine lv_icmp_ge (tgt := 65) hx hb dX9_round_17 (by decide) (fun c1 => ?_) (fun c1 => ?_)
    · have h := ite_t c1 h
      exact n65 k5 hk5 x1 x2 v_layer _ _ _ (lv_sub hl [0, 1, 2] rfl) hG h
    · have h := ite_f c1 h
      refine lv_aload_n hx hb dX9_round_20 rfl (lv_at hl 0 rfl) ?_
      refine gx_get (v := .ref (g.2.1 54)) (C := RX9) (T := TX9) (N := 44) hx hb hts mc_X9 hown hK hG (ga_50 g _) rfl 4 (by decide) hw0 rfl rfl dX9_round_21 ?_
      refine lv_bipush (v := (32 : Int32)) hx hb dX9_round_24 (by decide) ?_
      refine lv_iload_n hx hb dX9_round_26 rfl (lv_at hl 2 rfl) ?_
      refine lv_imul hx hb dX9_round_27 ?_
      refine lv_iload_n hx hb dX9_round_28 rfl (lv_at hl 3 rfl) ?_
      refine lv_iadd hx hb dX9_round_29 ?_
      obtain ⟨hg2, h⟩ := gd_some h
      refine gx_zald (f := (σ.2.2.1 54)) hx hb hK hG (ga_54 g _) hg2 dX9_round_30 ?_
      refine lv_if_eq (tgt := 59) hx hb dX9_round_31 (by decide) (fun c3 => ?_) (fun c3 => ?_)
      · have h := ite_t c3 h
        exact n59 k15 hk15 x1 x2 x3 v_layer _ _ _ (lv_sub hl [0, 1, 2, 3] rfl) hG h
      · have h := ite_f c3 h
        refine lv_aload_n hx hb dX9_round_34 rfl (lv_at hl 0 rfl) ?_
        refine lv_iload_n hx hb dX9_round_35 rfl (lv_at hl 2 rfl) ?_
        refine lv_iload_n hx hb dX9_round_36 rfl (lv_at hl 3 rfl) ?_
        obtain ⟨z4, hc5, h⟩ := bnd_some h
        refine gx_cV (σ' := (mkS σ [] [] [(60, z4.2)] [])) (r := (some (.int z4.1))) (rest := []) (As := [.int x2, .int x3]) hS9 (c_M_wayRound l g (mkS σ [] [] [(60, v_layer)] []) x2 x3 z4.1 z4.2 hc5) (mk_mk rfl rfl rfl rfl) (cwV 2 hts (gz_V mw_5_141 mw_5_143 ms_3_14 mw_1_11 mw_5_144) rfl rfl rfl hdV_X9_wayRound ⟨Nat.le_of_ble_eq_true rfl, Nat.le_of_ble_eq_true rfl⟩) hK hG (ga_50 g _) rfl rfl rfl hl.1 rfl (Nat.le_of_ble_eq_true rfl) dX9_round_37 (fun H locs hG => ?_)
        refine W.eq (g2 := F0 m 40 ls [.int z4.1]) rfl ?_
        refine lv_istore (lv' := [(4, .int z4.1), (0, .ref (g.2.1 50)), (1, .int x1), (2, .int x2), (3, .int x3)]) hx hb dX9_round_40 hl (Nat.le_of_ble_eq_true rfl) rfl (fun ls hl => ?_)
        refine lv_iload hx hb dX9_round_42 (lv_at hl 0 rfl) ?_
        refine lv_iconst (v := (1 : Int32)) hx hb dX9_round_44 (by decide) ?_
        refine lv_iadd hx hb dX9_round_45 ?_
        refine lv_iload_n hx hb dX9_round_46 rfl (lv_at hl 2 rfl) ?_
        refine lv_icmp_ge (tgt := 57) hx hb dX9_round_47 (by decide) (fun c6 => ?_) (fun c6 => ?_)
        · have h := ite_t c6 h
          refine lv_iload_n hx hb dX9_round_57 rfl (lv_at hl 2 rfl) ?_
          exact n58 k15 hk15 x2 x3 x1 z4.2 _ _ _ (lv_sub hl [1, 3, 4] rfl) hG h
        · have h := ite_f c6 h
          refine lv_iload hx hb dX9_round_50 (lv_at hl 0 rfl) ?_
          refine lv_iconst (v := (1 : Int32)) hx hb dX9_round_52 (by decide) ?_
          refine lv_iadd hx hb dX9_round_53 ?_
          refine lv_goto (tgt := 58) hx hb dX9_round_54 (by decide) ?_
          exact n58 k15 hk15 x2 x3 (z4.1 + (1 : Int32)) z4.2 _ _ _ (lv_sub hl [1, 3, 4] rfl) hG h
  have l15 : ∀ (k5 : Int32 → Int32 → (Nat → Int32) → Option (Int32 × (Nat → Int32))) (hk5 : ∀ (x1 : Int32) (x2 : Int32) (v_layer : Nat → Int32) (H : Heap) (locs : List Loc) (ls : Array Slot), lv_has ls 5 [(0, .ref (g.2.1 50)), (1, .int x1), (2, .int x2)] → GW g s (mkS σ [] [] [(60, v_layer)] []) H locs → k5 x1 x2 v_layer = some (r, w_layer) → Wg p l e 1 26 s m args below meth c g (some (.int r)) (mkS σ [] [] [(60, w_layer)] []) H locs (F0 m 5 ls [])) (F : Nat) (x1 : Int32) (x2 : Int32) (x3 : Int32) (v_layer : Nat → Int32) (H : Heap) (locs : List Loc) (ls : Array Slot), lv_has ls 5 [(0, .ref (g.2.1 50)), (1, .int x1), (2, .int x2), (3, .int x3)] → GW g s (mkS σ [] [] [(60, v_layer)] []) H locs → M_round_l15 k5 (σ.1 3203) (σ.2.2.1 54) F x1 x2 x3 v_layer = some (r, w_layer) → Wg p l e 1 26 s m args below meth c g (some (.int r)) (mkS σ [] [] [(60, w_layer)] []) H locs (F0 m 15 ls []) := by
    intro k5 hk5 F
    induction F with
    | zero => intro x1 x2 x3 v_layer H locs ls hl hG h; exact no_some h
    | succ F ih => intro x1 x2 x3 v_layer H locs ls hl hG h; exact n15 k5 hk5 (fun x1 x2 x3 v_layer => M_round_l15 k5 (σ.1 3203) (σ.2.2.1 54) F x1 x2 x3 v_layer) ih x1 x2 x3 v_layer H locs ls hl hG h
  have n82 : ∀ (t0 : Int32) (v_layer : Nat → Int32) (H : Heap) (locs : List Loc) (ls : Array Slot), lv_has ls 5 [] → GW g s (mkS σ [] [] [(60, v_layer)] []) H locs → M_round_n82 t0 v_layer = some (r, w_layer) → Wg p l e 1 26 s m args below meth c g (some (.int r)) (mkS σ [] [] [(60, w_layer)] []) H locs (F0 m 82 ls [.int t0]) := by
    intro t0 v_layer H locs ls hl hG h
    unfold M_round_n82 at h
    cases h
    exact gx_iret hx hb hr hlocks hG dX9_round_82
  have n71 : ∀ (x1 : Int32) (v_layer : Nat → Int32) (H : Heap) (locs : List Loc) (ls : Array Slot), lv_has ls 5 [(1, .int x1)] → GW g s (mkS σ [] [] [(60, v_layer)] []) H locs → M_round_n71 x1 v_layer = some (r, w_layer) → Wg p l e 1 26 s m args below meth c g (some (.int r)) (mkS σ [] [] [(60, w_layer)] []) H locs (F0 m 71 ls []) := by
    intro x1 v_layer H locs ls hl hG h
    unfold M_round_n71 at h
    refine lv_iload_n hx hb dX9_round_71 rfl (lv_at hl 0 rfl) ?_
    refine lv_bipush (v := (99 : Int32)) hx hb dX9_round_72 (by decide) ?_
    refine lv_icmp_ne (tgt := 81) hx hb dX9_round_74 (by decide) (fun c7 => ?_) (fun c7 => ?_)
    · have h := ite_f c7 h
      refine lv_iload_n hx hb dX9_round_81 rfl (lv_at hl 0 rfl) ?_
      exact n82 x1 v_layer _ _ _ (lv_sub hl [] rfl) hG h
    · have h := ite_t c7 h
      refine lv_iconst (v := (0 : Int32)) hx hb dX9_round_77 (by decide) ?_
      refine lv_goto (tgt := 82) hx hb dX9_round_78 (by decide) ?_
      exact n82 (0 : Int32) v_layer _ _ _ (lv_sub hl [] rfl) hG h
  have n5 : ∀ (k5 : Int32 → Int32 → (Nat → Int32) → Option (Int32 × (Nat → Int32))) (hk5 : ∀ (x1 : Int32) (x2 : Int32) (v_layer : Nat → Int32) (H : Heap) (locs : List Loc) (ls : Array Slot), lv_has ls 5 [(0, .ref (g.2.1 50)), (1, .int x1), (2, .int x2)] → GW g s (mkS σ [] [] [(60, v_layer)] []) H locs → k5 x1 x2 v_layer = some (r, w_layer) → Wg p l e 1 26 s m args below meth c g (some (.int r)) (mkS σ [] [] [(60, w_layer)] []) H locs (F0 m 5 ls [])) (x1 : Int32) (x2 : Int32) (v_layer : Nat → Int32) (H : Heap) (locs : List Loc) (ls : Array Slot), lv_has ls 5 [(0, .ref (g.2.1 50)), (1, .int x1), (2, .int x2)] → GW g s (mkS σ [] [] [(60, v_layer)] []) H locs → M_round_n5 k5 (σ.1 3203) (σ.2.2.1 54) x1 x2 v_layer = some (r, w_layer) → Wg p l e 1 26 s m args below meth c g (some (.int r)) (mkS σ [] [] [(60, w_layer)] []) H locs (F0 m 5 ls []) := by
    intro k5 hk5 x1 x2 v_layer H locs ls hl hG h
    unfold M_round_n5 at h
    refine lv_iload_n hx hb dX9_round_5 rfl (lv_at hl 2 rfl) ?_
    refine lv_aload_n hx hb dX9_round_6 rfl (lv_at hl 0 rfl) ?_
    refine gx_get (v := .int (σ.1 3203)) (C := RX9) (T := TX9) (N := 44) hx hb hts mc_X9 hown hK hG (ga_50 g _) rfl 3 (by decide) hw1 rfl rfl dX9_round_7 ?_
    refine lv_icmp_ge (tgt := 71) hx hb dX9_round_10 (by decide) (fun c8 => ?_) (fun c8 => ?_)
    · have h := ite_t c8 h
      exact n71 x1 v_layer _ _ _ (lv_sub hl [1] rfl) hG h
    · have h := ite_f c8 h
      refine lv_iconst (v := (0 : Int32)) hx hb dX9_round_13 (by decide) ?_
      refine lv_istore_n (lv' := [(3, .int (0 : Int32)), (0, .ref (g.2.1 50)), (1, .int x1), (2, .int x2)]) hx hb dX9_round_14 rfl hl (Nat.le_of_ble_eq_true rfl) rfl (fun ls hl => ?_)
      exact l15 k5 hk5 FUEL x1 x2 (0 : Int32) v_layer _ _ _ (lv_sub hl [1, 2, 3, 0] rfl) hG h
  have l5 : ∀  (F : Nat) (x1 : Int32) (x2 : Int32) (v_layer : Nat → Int32) (H : Heap) (locs : List Loc) (ls : Array Slot), lv_has ls 5 [(0, .ref (g.2.1 50)), (1, .int x1), (2, .int x2)] → GW g s (mkS σ [] [] [(60, v_layer)] []) H locs → M_round_l5 (σ.1 3203) (σ.2.2.1 54) F x1 x2 v_layer = some (r, w_layer) → Wg p l e 1 26 s m args below meth c g (some (.int r)) (mkS σ [] [] [(60, w_layer)] []) H locs (F0 m 5 ls []) := by
    intro F
    induction F with
    | zero => intro x1 x2 v_layer H locs ls hl hG h; exact no_some h
    | succ F ih => intro x1 x2 v_layer H locs ls hl hG h; exact n5 (fun x1 x2 v_layer => M_round_l5 (σ.1 3203) (σ.2.2.1 54) F x1 x2 v_layer) ih x1 x2 v_layer H locs ls hl hG h
  refine lv_bipush (v := (99 : Int32)) hx hb dX9_round_0 (by decide) ?_
  refine lv_istore_n (lv' := [(1, .int (99 : Int32)), (0, .ref (g.2.1 50))]) hx hb dX9_round_2 rfl hl (Nat.le_of_ble_eq_true rfl) rfl (fun ls hl => ?_)
  refine lv_iconst (v := (0 : Int32)) hx hb dX9_round_3 (by decide) ?_
  refine lv_istore_n (lv' := [(2, .int (0 : Int32)), (1, .int (99 : Int32)), (0, .ref (g.2.1 50))]) hx hb dX9_round_4 rfl hl (Nat.le_of_ble_eq_true rfl) rfl (fun ls hl => ?_)
  exact l5 FUEL (99 : Int32) (0 : Int32) (σ.2.2.1 60) _ _ _ (lv_sub hl [2, 1, 0] rfl) hG h

set_option maxHeartbeats 4000000 in
set_option maxRecDepth 100000 in
theorem c_M_many (l : Launch) (g : GC) (σ : St) (x1 : Int32) (r : Int32) (w_clashP : Int32) (w_clashQ : Int32) (w_far : Int32) (w_heaps : Int32) (w_isMeasured : Int32) (w_isTold : Nat → Int32) (w_layer : Nat → Int32) (w_tableA : Nat → Int32) (w_tableB : Nat → Int32) (w_tableC : Nat → Int32) (w_wayOf : Nat → Int32) (h : M_many x1 (σ.1 3221) (σ.1 3222) (σ.1 3214) (σ.1 3215) (σ.1 3212) (σ.1 3203) (σ.2.2.1 64) (σ.2.2.1 60) (σ.2.2.1 54) (σ.2.2.1 62) (σ.2.2.1 63) (σ.2.2.1 61) (σ.2.2.1 59) = some (r, w_clashP, w_clashQ, w_far, w_heaps, w_isMeasured, w_isTold, w_layer, w_tableA, w_tableB, w_tableC, w_wayOf)) : Cn l g yX9_many (Cond.code yX9_many cX9_many 2 (some .int) :: wG) 4 93 [.ref (g.2.1 50), .int x1] σ (some (.int r)) (mkS σ [(3221, w_clashP), (3222, w_clashQ), (3214, w_far), (3215, w_heaps), (3212, w_isMeasured)] [] [(64, w_isTold), (60, w_layer), (62, w_tableA), (63, w_tableB), (61, w_tableC), (59, w_wayOf)] []) := by
  unfold Cn
  refine Met.ofW (cc := cX9_many) (maxL := 2) (ret := (some .int)) (by decide) rfl ?_
  intro p e s m args below meth c s₁ B hml hv
  obtain ⟨hargs, hP0, hK⟩ := hv
  have hx := B.exec
  have hb := B.bytes
  have hr := B.returns
  have hts : ∀ w ∈ wG, w.before args s = true := fun w h => atoms_spec (ws := (Cond.code yX9_many cX9_many 2 (some .int) :: wG)) B.pre w (List.mem_cons_of_mem _ h)
  have hown : s.vm.findClass RX9 = some m.cls := findClass_of_methodNamed B.named
  have hlocks := B.notSynchronized
  have hS9 : CallFix p m c cX9_many 2 s args wG RX9 := ⟨hx, hb, hml, hown, hts⟩
  have hw0 := hts _ mw_4_142
  have hw1 := hts _ mw_4_154
  have hw2 := hts _ mw_4_153
  have hf9 : entryFrame m args 2 = _ := (congrArg (fun a => entryFrame m a 2) hargs).trans (lg_entry_eq m [.ref (g.2.1 50), .int x1] 2)
  show Wg p l e 4 93 s m args below meth c g (some (.int r)) (mkS σ [(3221, w_clashP), (3222, w_clashQ), (3214, w_far), (3215, w_heaps), (3212, w_isMeasured)] [] [(64, w_isTold), (60, w_layer), (62, w_tableA), (63, w_tableB), (61, w_tableC), (59, w_wayOf)] []) s.heap [] (entryFrame m args 2)
  rw [hf9]
  have hl := lv_entry ([.ref (g.2.1 50), .int x1]) (n := 2) (Nat.le_of_ble_eq_true rfl)
  generalize (lg_sl ([.ref (g.2.1 50), .int x1]) ++ List.replicate (2 - (lg_sl ([.ref (g.2.1 50), .int x1])).length) Slot.unset).toArray = ls at hl ⊢
  have hl : lv_has ls 2 [(0, .ref (g.2.1 50)), (1, .int x1)] := hl
  have hG : GW g s σ s.heap [] := ⟨hP0, va_S.rf⟩
  have hG : GW g s (mkS σ [(3221, (σ.1 3221)), (3222, (σ.1 3222)), (3214, (σ.1 3214)), (3215, (σ.1 3215)), (3212, (σ.1 3212))] [] [(64, (σ.2.2.1 64)), (60, (σ.2.2.1 60)), (62, (σ.2.2.1 62)), (63, (σ.2.2.1 63)), (61, (σ.2.2.1 61)), (59, (σ.2.2.1 59))] []) s.heap [] := GW_self [3221, 3222, 3214, 3215, 3212] [] [64, 60, 62, 63, 61, 59] [] hG
  unfold M_many at h
  have n88 : ∀ (t0 : Int32) (v_clashP : Int32) (v_clashQ : Int32) (v_far : Int32) (v_heaps : Int32) (v_isMeasured : Int32) (v_isTold : Nat → Int32) (v_layer : Nat → Int32) (v_tableA : Nat → Int32) (v_tableB : Nat → Int32) (v_tableC : Nat → Int32) (v_wayOf : Nat → Int32) (H : Heap) (locs : List Loc) (ls : Array Slot), lv_has ls 2 [] → GW g s (mkS σ [(3221, v_clashP), (3222, v_clashQ), (3214, v_far), (3215, v_heaps), (3212, v_isMeasured)] [] [(64, v_isTold), (60, v_layer), (62, v_tableA), (63, v_tableB), (61, v_tableC), (59, v_wayOf)] []) H locs → M_many_n88 t0 v_clashP v_clashQ v_far v_heaps v_isMeasured v_isTold v_layer v_tableA v_tableB v_tableC v_wayOf = some (r, w_clashP, w_clashQ, w_far, w_heaps, w_isMeasured, w_isTold, w_layer, w_tableA, w_tableB, w_tableC, w_wayOf) → Wg p l e 4 93 s m args below meth c g (some (.int r)) (mkS σ [(3221, w_clashP), (3222, w_clashQ), (3214, w_far), (3215, w_heaps), (3212, w_isMeasured)] [] [(64, w_isTold), (60, w_layer), (62, w_tableA), (63, w_tableB), (61, w_tableC), (59, w_wayOf)] []) H locs (F0 m 88 ls [.int t0]) := by
    intro t0 v_clashP v_clashQ v_far v_heaps v_isMeasured v_isTold v_layer v_tableA v_tableB v_tableC v_wayOf H locs ls hl hG h
    unfold M_many_n88 at h
    cases h
    exact gx_iret hx hb hr hlocks hG dX9_many_88
  have n105 : ∀ (t0 : Int32) (v_clashP : Int32) (v_clashQ : Int32) (v_far : Int32) (v_heaps : Int32) (v_isMeasured : Int32) (v_isTold : Nat → Int32) (v_layer : Nat → Int32) (v_tableA : Nat → Int32) (v_tableB : Nat → Int32) (v_tableC : Nat → Int32) (v_wayOf : Nat → Int32) (H : Heap) (locs : List Loc) (ls : Array Slot), lv_has ls 2 [] → GW g s (mkS σ [(3221, v_clashP), (3222, v_clashQ), (3214, v_far), (3215, v_heaps), (3212, v_isMeasured)] [] [(64, v_isTold), (60, v_layer), (62, v_tableA), (63, v_tableB), (61, v_tableC), (59, v_wayOf)] []) H locs → M_many_n105 t0 v_clashP v_clashQ v_far v_heaps v_isMeasured v_isTold v_layer v_tableA v_tableB v_tableC v_wayOf = some (r, w_clashP, w_clashQ, w_far, w_heaps, w_isMeasured, w_isTold, w_layer, w_tableA, w_tableB, w_tableC, w_wayOf) → Wg p l e 4 93 s m args below meth c g (some (.int r)) (mkS σ [(3221, w_clashP), (3222, w_clashQ), (3214, w_far), (3215, w_heaps), (3212, w_isMeasured)] [] [(64, w_isTold), (60, w_layer), (62, w_tableA), (63, w_tableB), (61, w_tableC), (59, w_wayOf)] []) H locs (F0 m 105 ls [.int t0]) := by
    intro t0 v_clashP v_clashQ v_far v_heaps v_isMeasured v_isTold v_layer v_tableA v_tableB v_tableC v_wayOf H locs ls hl hG h
    unfold M_many_n105 at h
    cases h
    exact gx_iret hx hb hr hlocks hG dX9_many_105
  have n123 : ∀ (t0 : Int32) (v_clashP : Int32) (v_clashQ : Int32) (v_far : Int32) (v_heaps : Int32) (v_isMeasured : Int32) (v_isTold : Nat → Int32) (v_layer : Nat → Int32) (v_tableA : Nat → Int32) (v_tableB : Nat → Int32) (v_tableC : Nat → Int32) (v_wayOf : Nat → Int32) (H : Heap) (locs : List Loc) (ls : Array Slot), lv_has ls 2 [] → GW g s (mkS σ [(3221, v_clashP), (3222, v_clashQ), (3214, v_far), (3215, v_heaps), (3212, v_isMeasured)] [] [(64, v_isTold), (60, v_layer), (62, v_tableA), (63, v_tableB), (61, v_tableC), (59, v_wayOf)] []) H locs → M_many_n123 t0 v_clashP v_clashQ v_far v_heaps v_isMeasured v_isTold v_layer v_tableA v_tableB v_tableC v_wayOf = some (r, w_clashP, w_clashQ, w_far, w_heaps, w_isMeasured, w_isTold, w_layer, w_tableA, w_tableB, w_tableC, w_wayOf) → Wg p l e 4 93 s m args below meth c g (some (.int r)) (mkS σ [(3221, w_clashP), (3222, w_clashQ), (3214, w_far), (3215, w_heaps), (3212, w_isMeasured)] [] [(64, w_isTold), (60, w_layer), (62, w_tableA), (63, w_tableB), (61, w_tableC), (59, w_wayOf)] []) H locs (F0 m 123 ls [.int t0]) := by
    intro t0 v_clashP v_clashQ v_far v_heaps v_isMeasured v_isTold v_layer v_tableA v_tableB v_tableC v_wayOf H locs ls hl hG h
    unfold M_many_n123 at h
    cases h
    exact gx_iret hx hb hr hlocks hG dX9_many_123
  have n136 : ∀ (t0 : Int32) (v_clashP : Int32) (v_clashQ : Int32) (v_far : Int32) (v_heaps : Int32) (v_isMeasured : Int32) (v_isTold : Nat → Int32) (v_layer : Nat → Int32) (v_tableA : Nat → Int32) (v_tableB : Nat → Int32) (v_tableC : Nat → Int32) (v_wayOf : Nat → Int32) (H : Heap) (locs : List Loc) (ls : Array Slot), lv_has ls 2 [] → GW g s (mkS σ [(3221, v_clashP), (3222, v_clashQ), (3214, v_far), (3215, v_heaps), (3212, v_isMeasured)] [] [(64, v_isTold), (60, v_layer), (62, v_tableA), (63, v_tableB), (61, v_tableC), (59, v_wayOf)] []) H locs → M_many_n136 t0 v_clashP v_clashQ v_far v_heaps v_isMeasured v_isTold v_layer v_tableA v_tableB v_tableC v_wayOf = some (r, w_clashP, w_clashQ, w_far, w_heaps, w_isMeasured, w_isTold, w_layer, w_tableA, w_tableB, w_tableC, w_wayOf) → Wg p l e 4 93 s m args below meth c g (some (.int r)) (mkS σ [(3221, w_clashP), (3222, w_clashQ), (3214, w_far), (3215, w_heaps), (3212, w_isMeasured)] [] [(64, w_isTold), (60, w_layer), (62, w_tableA), (63, w_tableB), (61, w_tableC), (59, w_wayOf)] []) H locs (F0 m 136 ls [.int t0]) := by
    intro t0 v_clashP v_clashQ v_far v_heaps v_isMeasured v_isTold v_layer v_tableA v_tableB v_tableC v_wayOf H locs ls hl hG h
    unfold M_many_n136 at h
    cases h
    exact gx_iret hx hb hr hlocks hG dX9_many_136
  have n149 : ∀ (t0 : Int32) (v_clashP : Int32) (v_clashQ : Int32) (v_far : Int32) (v_heaps : Int32) (v_isMeasured : Int32) (v_isTold : Nat → Int32) (v_layer : Nat → Int32) (v_tableA : Nat → Int32) (v_tableB : Nat → Int32) (v_tableC : Nat → Int32) (v_wayOf : Nat → Int32) (H : Heap) (locs : List Loc) (ls : Array Slot), lv_has ls 2 [] → GW g s (mkS σ [(3221, v_clashP), (3222, v_clashQ), (3214, v_far), (3215, v_heaps), (3212, v_isMeasured)] [] [(64, v_isTold), (60, v_layer), (62, v_tableA), (63, v_tableB), (61, v_tableC), (59, v_wayOf)] []) H locs → M_many_n149 t0 v_clashP v_clashQ v_far v_heaps v_isMeasured v_isTold v_layer v_tableA v_tableB v_tableC v_wayOf = some (r, w_clashP, w_clashQ, w_far, w_heaps, w_isMeasured, w_isTold, w_layer, w_tableA, w_tableB, w_tableC, w_wayOf) → Wg p l e 4 93 s m args below meth c g (some (.int r)) (mkS σ [(3221, w_clashP), (3222, w_clashQ), (3214, w_far), (3215, w_heaps), (3212, w_isMeasured)] [] [(64, w_isTold), (60, w_layer), (62, w_tableA), (63, w_tableB), (61, w_tableC), (59, w_wayOf)] []) H locs (F0 m 149 ls [.int t0]) := by
    intro t0 v_clashP v_clashQ v_far v_heaps v_isMeasured v_isTold v_layer v_tableA v_tableB v_tableC v_wayOf H locs ls hl hG h
    unfold M_many_n149 at h
    cases h
    exact gx_iret hx hb hr hlocks hG dX9_many_149
  have n162 : ∀ (t0 : Int32) (v_clashP : Int32) (v_clashQ : Int32) (v_far : Int32) (v_heaps : Int32) (v_isMeasured : Int32) (v_isTold : Nat → Int32) (v_layer : Nat → Int32) (v_tableA : Nat → Int32) (v_tableB : Nat → Int32) (v_tableC : Nat → Int32) (v_wayOf : Nat → Int32) (H : Heap) (locs : List Loc) (ls : Array Slot), lv_has ls 2 [] → GW g s (mkS σ [(3221, v_clashP), (3222, v_clashQ), (3214, v_far), (3215, v_heaps), (3212, v_isMeasured)] [] [(64, v_isTold), (60, v_layer), (62, v_tableA), (63, v_tableB), (61, v_tableC), (59, v_wayOf)] []) H locs → M_many_n162 t0 v_clashP v_clashQ v_far v_heaps v_isMeasured v_isTold v_layer v_tableA v_tableB v_tableC v_wayOf = some (r, w_clashP, w_clashQ, w_far, w_heaps, w_isMeasured, w_isTold, w_layer, w_tableA, w_tableB, w_tableC, w_wayOf) → Wg p l e 4 93 s m args below meth c g (some (.int r)) (mkS σ [(3221, w_clashP), (3222, w_clashQ), (3214, w_far), (3215, w_heaps), (3212, w_isMeasured)] [] [(64, w_isTold), (60, w_layer), (62, w_tableA), (63, w_tableB), (61, w_tableC), (59, w_wayOf)] []) H locs (F0 m 162 ls [.int t0]) := by
    intro t0 v_clashP v_clashQ v_far v_heaps v_isMeasured v_isTold v_layer v_tableA v_tableB v_tableC v_wayOf H locs ls hl hG h
    unfold M_many_n162 at h
    cases h
    exact gx_iret hx hb hr hlocks hG dX9_many_162
  refine lv_aload_n hx hb dX9_many_0 rfl (lv_at hl 0 rfl) ?_
  obtain ⟨z1, hc2, h⟩ := bnd_some h
  refine gx_cV (σ' := (mkS σ [(3221, (σ.1 3221)), (3222, (σ.1 3222)), (3214, z1.1), (3215, z1.2.1), (3212, z1.2.2.1)] [] [(64, (σ.2.2.1 64)), (60, (σ.2.2.1 60)), (62, (σ.2.2.1 62)), (63, (σ.2.2.1 63)), (61, (σ.2.2.1 61)), (59, z1.2.2.2)] [])) (r := none) (rest := []) (As := []) hS9 (c_M_measure l g (mkS σ [(3221, (σ.1 3221)), (3222, (σ.1 3222)), (3214, (σ.1 3214)), (3215, (σ.1 3215)), (3212, (σ.1 3212))] [] [(64, (σ.2.2.1 64)), (60, (σ.2.2.1 60)), (62, (σ.2.2.1 62)), (63, (σ.2.2.1 63)), (61, (σ.2.2.1 61)), (59, (σ.2.2.1 59))] []) z1.1 z1.2.1 z1.2.2.1 z1.2.2.2 hc2) (mk_mk rfl rfl rfl rfl) (cwV 0 hts (gz_V mw_5_117 mw_5_119 ms_3_9 mw_1_11 mw_5_120) rfl rfl rfl hdV_X9_measure ⟨Nat.le_of_ble_eq_true rfl, Nat.le_of_ble_eq_true rfl⟩) hK hG (ga_50 g _) rfl rfl rfl hl.1 rfl (Nat.le_of_ble_eq_true rfl) dX9_many_1 (fun H locs hG => ?_)
  refine W.eq (g2 := F0 m 4 ls []) rfl ?_
  refine lv_iload_n hx hb dX9_many_4 rfl (lv_at hl 1 rfl) ?_
  by_cases c3 : x1 = (0 : Int32)
  · have h := ite_t c3 h
    refine lv_tableIn (off := 55) (tgt := 60) hx hb dX9_many_5 (by rw [c3]; decide) (by rw [c3]; decide) (by rw [c3]; rfl) (by decide) ?_
    refine lv_aload_n hx hb dX9_many_60 rfl (lv_at hl 0 rfl) ?_
    refine gx_get (v := .int (σ.1 3203)) (C := RX9) (T := TX9) (N := 44) hx hb hts mc_X9 hown hK hG (ga_50 g _) rfl 3 (by decide) hw0 rfl rfl dX9_many_61 ?_
    cases h
    exact gx_iret hx hb hr hlocks hG dX9_many_64
  · have h := ite_f c3 h
    by_cases c4 : x1 = (1 : Int32)
    · have h := ite_t c4 h
      refine lv_tableIn (off := 60) (tgt := 65) hx hb dX9_many_5 (by rw [c4]; decide) (by rw [c4]; decide) (by rw [c4]; rfl) (by decide) ?_
      refine lv_aload_n hx hb dX9_many_65 rfl (lv_at hl 0 rfl) ?_
      obtain ⟨z5, hc6, h⟩ := bnd_some h
      refine gx_cV (σ' := (mkS σ [(3221, (σ.1 3221)), (3222, (σ.1 3222)), (3214, z1.1), (3215, z1.2.1), (3212, z1.2.2.1)] [] [(64, (σ.2.2.1 64)), (60, (σ.2.2.1 60)), (62, (σ.2.2.1 62)), (63, (σ.2.2.1 63)), (61, (σ.2.2.1 61)), (59, z1.2.2.2)] [])) (r := (some (.int z5))) (rest := []) (As := []) hS9 (c_M_roads l g (mkS σ [(3221, (σ.1 3221)), (3222, (σ.1 3222)), (3214, z1.1), (3215, z1.2.1), (3212, z1.2.2.1)] [] [(64, (σ.2.2.1 64)), (60, (σ.2.2.1 60)), (62, (σ.2.2.1 62)), (63, (σ.2.2.1 63)), (61, (σ.2.2.1 61)), (59, z1.2.2.2)] []) z5 hc6) rfl (cwV 0 hts (gz_V mw_5_129 mw_5_131 ms_3_11 mw_1_11 mw_5_132) rfl rfl rfl hdV_X9_roads ⟨Nat.le_of_ble_eq_true rfl, Nat.le_of_ble_eq_true rfl⟩) hK hG (ga_50 g _) rfl rfl rfl hl.1 rfl (Nat.le_of_ble_eq_true rfl) dX9_many_66 (fun H locs hG => ?_)
      refine W.eq (g2 := F0 m 69 ls [.int z5]) rfl ?_
      cases h
      exact gx_iret hx hb hr hlocks hG dX9_many_69
    · have h := ite_f c4 h
      by_cases c7 : x1 = (2 : Int32)
      · have h := ite_t c7 h
        refine lv_tableIn (off := 65) (tgt := 70) hx hb dX9_many_5 (by rw [c7]; decide) (by rw [c7]; decide) (by rw [c7]; rfl) (by decide) ?_
        refine lv_aload_n hx hb dX9_many_70 rfl (lv_at hl 0 rfl) ?_
        refine gx_get (v := .int z1.2.1) (C := RX9) (T := TX9) (N := 44) hx hb hts mc_X9 hown hK hG (ga_50 g _) rfl 15 (by decide) hw1 rfl rfl dX9_many_71 ?_
        cases h
        exact gx_iret hx hb hr hlocks hG dX9_many_74
      · have h := ite_f c7 h
        by_cases c8 : x1 = (3 : Int32)
        · have h := ite_t c8 h
          refine lv_tableIn (off := 70) (tgt := 75) hx hb dX9_many_5 (by rw [c8]; decide) (by rw [c8]; decide) (by rw [c8]; rfl) (by decide) ?_
          refine lv_aload_n hx hb dX9_many_75 rfl (lv_at hl 0 rfl) ?_
          refine gx_get (v := .int z1.2.1) (C := RX9) (T := TX9) (N := 44) hx hb hts mc_X9 hown hK hG (ga_50 g _) rfl 15 (by decide) hw1 rfl rfl dX9_many_76 ?_
          refine lv_iconst (v := (1 : Int32)) hx hb dX9_many_79 (by decide) ?_
          refine lv_icmp_ne (tgt := 87) hx hb dX9_many_80 (by decide) (fun c9 => ?_) (fun c9 => ?_)
          · have h := ite_f c9 h
            refine lv_iconst (v := (0 : Int32)) hx hb dX9_many_87 (by decide) ?_
            exact n88 (0 : Int32) (σ.1 3221) (σ.1 3222) z1.1 z1.2.1 z1.2.2.1 (σ.2.2.1 64) (σ.2.2.1 60) (σ.2.2.1 62) (σ.2.2.1 63) (σ.2.2.1 61) z1.2.2.2 _ _ _ (lv_sub hl [] rfl) hG h
          · have h := ite_t c9 h
            refine lv_iconst (v := (1 : Int32)) hx hb dX9_many_83 (by decide) ?_
            refine lv_goto (tgt := 88) hx hb dX9_many_84 (by decide) ?_
            exact n88 (1 : Int32) (σ.1 3221) (σ.1 3222) z1.1 z1.2.1 z1.2.2.1 (σ.2.2.1 64) (σ.2.2.1 60) (σ.2.2.1 62) (σ.2.2.1 63) (σ.2.2.1 61) z1.2.2.2 _ _ _ (lv_sub hl [] rfl) hG h
        · have h := ite_f c8 h
          by_cases c10 : x1 = (4 : Int32)
          · have h := ite_t c10 h
            refine lv_tableIn (off := 84) (tgt := 89) hx hb dX9_many_5 (by rw [c10]; decide) (by rw [c10]; decide) (by rw [c10]; rfl) (by decide) ?_
            refine lv_aload_n hx hb dX9_many_89 rfl (lv_at hl 0 rfl) ?_
            refine gx_get (v := .int z1.2.1) (C := RX9) (T := TX9) (N := 44) hx hb hts mc_X9 hown hK hG (ga_50 g _) rfl 15 (by decide) hw1 rfl rfl dX9_many_90 ?_
            refine lv_iconst (v := (1 : Int32)) hx hb dX9_many_93 (by decide) ?_
            refine lv_icmp_ne (tgt := 104) hx hb dX9_many_94 (by decide) (fun c11 => ?_) (fun c11 => ?_)
            · have h := ite_f c11 h
              refine lv_iconst (v := (-1 : Int32)) hx hb dX9_many_104 (by decide) ?_
              exact n105 (-1 : Int32) (σ.1 3221) (σ.1 3222) z1.1 z1.2.1 z1.2.2.1 (σ.2.2.1 64) (σ.2.2.1 60) (σ.2.2.1 62) (σ.2.2.1 63) (σ.2.2.1 61) z1.2.2.2 _ _ _ (lv_sub hl [] rfl) hG h
            · have h := ite_t c11 h
              refine lv_aload_n hx hb dX9_many_97 rfl (lv_at hl 0 rfl) ?_
              refine gx_get (v := .int z1.1) (C := RX9) (T := TX9) (N := 44) hx hb hts mc_X9 hown hK hG (ga_50 g _) rfl 14 (by decide) hw2 rfl rfl dX9_many_98 ?_
              refine lv_goto (tgt := 105) hx hb dX9_many_101 (by decide) ?_
              exact n105 z1.1 (σ.1 3221) (σ.1 3222) z1.1 z1.2.1 z1.2.2.1 (σ.2.2.1 64) (σ.2.2.1 60) (σ.2.2.1 62) (σ.2.2.1 63) (σ.2.2.1 61) z1.2.2.2 _ _ _ (lv_sub hl [] rfl) hG h
          · have h := ite_f c10 h
            by_cases c12 : x1 = (5 : Int32)
            · have h := ite_t c12 h
              refine lv_tableIn (off := 101) (tgt := 106) hx hb dX9_many_5 (by rw [c12]; decide) (by rw [c12]; decide) (by rw [c12]; rfl) (by decide) ?_
              refine lv_aload_n hx hb dX9_many_106 rfl (lv_at hl 0 rfl) ?_
              obtain ⟨z13, hc14, h⟩ := bnd_some h
              refine gx_cV (σ' := (mkS σ [(3221, (σ.1 3221)), (3222, (σ.1 3222)), (3214, z1.1), (3215, z1.2.1), (3212, z1.2.2.1)] [] [(64, (σ.2.2.1 64)), (60, z13.2), (62, (σ.2.2.1 62)), (63, (σ.2.2.1 63)), (61, (σ.2.2.1 61)), (59, z1.2.2.2)] [])) (r := (some (.int z13.1))) (rest := []) (As := []) hS9 (c_M_round l g (mkS σ [(3221, (σ.1 3221)), (3222, (σ.1 3222)), (3214, z1.1), (3215, z1.2.1), (3212, z1.2.2.1)] [] [(64, (σ.2.2.1 64)), (60, (σ.2.2.1 60)), (62, (σ.2.2.1 62)), (63, (σ.2.2.1 63)), (61, (σ.2.2.1 61)), (59, z1.2.2.2)] []) z13.1 z13.2 hc14) (mk_mk rfl rfl rfl rfl) (cwV 0 hts (gz_V mw_5_137 mw_5_139 ms_3_13 mw_1_11 mw_5_140) rfl rfl rfl hdV_X9_round ⟨Nat.le_of_ble_eq_true rfl, Nat.le_of_ble_eq_true rfl⟩) hK hG (ga_50 g _) rfl rfl rfl hl.1 rfl (Nat.le_of_ble_eq_true rfl) dX9_many_107 (fun H locs hG => ?_)
              refine W.eq (g2 := F0 m 110 ls [.int z13.1]) rfl ?_
              cases h
              exact gx_iret hx hb hr hlocks hG dX9_many_110
            · have h := ite_f c12 h
              by_cases c15 : x1 = (6 : Int32)
              · have h := ite_t c15 h
                refine lv_tableIn (off := 106) (tgt := 111) hx hb dX9_many_5 (by rw [c15]; decide) (by rw [c15]; decide) (by rw [c15]; rfl) (by decide) ?_
                refine lv_aload_n hx hb dX9_many_111 rfl (lv_at hl 0 rfl) ?_
                obtain ⟨z16, hc17, h⟩ := bnd_some h
                refine gx_cV (σ' := (mkS σ [(3221, (σ.1 3221)), (3222, (σ.1 3222)), (3214, z1.1), (3215, z1.2.1), (3212, z1.2.2.1)] [] [(64, (σ.2.2.1 64)), (60, (σ.2.2.1 60)), (62, (σ.2.2.1 62)), (63, (σ.2.2.1 63)), (61, (σ.2.2.1 61)), (59, z1.2.2.2)] [])) (r := (some (.int z16))) (rest := []) (As := []) hS9 (c_M_isEven l g (mkS σ [(3221, (σ.1 3221)), (3222, (σ.1 3222)), (3214, z1.1), (3215, z1.2.1), (3212, z1.2.2.1)] [] [(64, (σ.2.2.1 64)), (60, (σ.2.2.1 60)), (62, (σ.2.2.1 62)), (63, (σ.2.2.1 63)), (61, (σ.2.2.1 61)), (59, z1.2.2.2)] []) z16 hc17) rfl (cwV 0 hts (gz_V mw_5_145 mw_5_147 ms_3_15 mw_1_11 mw_5_148) rfl rfl rfl hdV_X9_isEven ⟨Nat.le_of_ble_eq_true rfl, Nat.le_of_ble_eq_true rfl⟩) hK hG (ga_50 g _) rfl rfl rfl hl.1 rfl (Nat.le_of_ble_eq_true rfl) dX9_many_112 (fun H locs hG => ?_)
                refine W.eq (g2 := F0 m 115 ls [.int z16]) rfl ?_
                refine lv_if_eq (tgt := 122) hx hb dX9_many_115 (by decide) (fun c18 => ?_) (fun c18 => ?_)
                · have h := ite_t c18 h
                  refine lv_iconst (v := (0 : Int32)) hx hb dX9_many_122 (by decide) ?_
                  exact n123 (0 : Int32) (σ.1 3221) (σ.1 3222) z1.1 z1.2.1 z1.2.2.1 (σ.2.2.1 64) (σ.2.2.1 60) (σ.2.2.1 62) (σ.2.2.1 63) (σ.2.2.1 61) z1.2.2.2 _ _ _ (lv_sub hl [] rfl) hG h
                · have h := ite_f c18 h
                  refine lv_iconst (v := (1 : Int32)) hx hb dX9_many_118 (by decide) ?_
                  refine lv_goto (tgt := 123) hx hb dX9_many_119 (by decide) ?_
                  exact n123 (1 : Int32) (σ.1 3221) (σ.1 3222) z1.1 z1.2.1 z1.2.2.1 (σ.2.2.1 64) (σ.2.2.1 60) (σ.2.2.1 62) (σ.2.2.1 63) (σ.2.2.1 61) z1.2.2.2 _ _ _ (lv_sub hl [] rfl) hG h
              · have h := ite_f c15 h
                by_cases c19 : x1 = (7 : Int32)
                · have h := ite_t c19 h
                  refine lv_tableIn (off := 119) (tgt := 124) hx hb dX9_many_5 (by rw [c19]; decide) (by rw [c19]; decide) (by rw [c19]; rfl) (by decide) ?_
                  refine lv_aload_n hx hb dX9_many_124 rfl (lv_at hl 0 rfl) ?_
                  obtain ⟨z20, hc21, h⟩ := bnd_some h
                  refine gx_cV (σ' := (mkS σ [(3221, (σ.1 3221)), (3222, (σ.1 3222)), (3214, z20.2.1), (3215, z20.2.2.1), (3212, z20.2.2.2.1)] [] [(64, (σ.2.2.1 64)), (60, (σ.2.2.1 60)), (62, (σ.2.2.1 62)), (63, (σ.2.2.1 63)), (61, (σ.2.2.1 61)), (59, z20.2.2.2.2)] [])) (r := (some (.int z20.1))) (rest := []) (As := []) hS9 (c_M_isOfSides l g (mkS σ [(3221, (σ.1 3221)), (3222, (σ.1 3222)), (3214, z1.1), (3215, z1.2.1), (3212, z1.2.2.1)] [] [(64, (σ.2.2.1 64)), (60, (σ.2.2.1 60)), (62, (σ.2.2.1 62)), (63, (σ.2.2.1 63)), (61, (σ.2.2.1 61)), (59, z1.2.2.2)] []) z20.1 z20.2.1 z20.2.2.1 z20.2.2.2.1 z20.2.2.2.2 hc21) (mk_mk rfl rfl rfl rfl) (cwV 0 hts (gz_V mw_5_149 mw_5_151 ms_4_0 mw_1_11 mw_5_152) rfl rfl rfl hdV_X9_isOfSides ⟨Nat.le_of_ble_eq_true rfl, Nat.le_of_ble_eq_true rfl⟩) hK hG (ga_50 g _) rfl rfl rfl hl.1 rfl (Nat.le_of_ble_eq_true rfl) dX9_many_125 (fun H locs hG => ?_)
                  refine W.eq (g2 := F0 m 128 ls [.int z20.1]) rfl ?_
                  refine lv_if_eq (tgt := 135) hx hb dX9_many_128 (by decide) (fun c22 => ?_) (fun c22 => ?_)
                  · have h := ite_t c22 h
                    refine lv_iconst (v := (0 : Int32)) hx hb dX9_many_135 (by decide) ?_
                    exact n136 (0 : Int32) (σ.1 3221) (σ.1 3222) z20.2.1 z20.2.2.1 z20.2.2.2.1 (σ.2.2.1 64) (σ.2.2.1 60) (σ.2.2.1 62) (σ.2.2.1 63) (σ.2.2.1 61) z20.2.2.2.2 _ _ _ (lv_sub hl [] rfl) hG h
                  · have h := ite_f c22 h
                    refine lv_iconst (v := (1 : Int32)) hx hb dX9_many_131 (by decide) ?_
                    refine lv_goto (tgt := 136) hx hb dX9_many_132 (by decide) ?_
                    exact n136 (1 : Int32) (σ.1 3221) (σ.1 3222) z20.2.1 z20.2.2.1 z20.2.2.2.1 (σ.2.2.1 64) (σ.2.2.1 60) (σ.2.2.1 62) (σ.2.2.1 63) (σ.2.2.1 61) z20.2.2.2.2 _ _ _ (lv_sub hl [] rfl) hG h
                · have h := ite_f c19 h
                  by_cases c23 : x1 = (8 : Int32)
                  · have h := ite_t c23 h
                    refine lv_tableIn (off := 132) (tgt := 137) hx hb dX9_many_5 (by rw [c23]; decide) (by rw [c23]; decide) (by rw [c23]; rfl) (by decide) ?_
                    refine lv_aload_n hx hb dX9_many_137 rfl (lv_at hl 0 rfl) ?_
                    obtain ⟨z24, hc25, h⟩ := bnd_some h
                    refine gx_cV (σ' := (mkS σ [(3221, (σ.1 3221)), (3222, (σ.1 3222)), (3214, z24.2.1), (3215, z24.2.2.1), (3212, z24.2.2.2.1)] [] [(64, (σ.2.2.1 64)), (60, (σ.2.2.1 60)), (62, (σ.2.2.1 62)), (63, (σ.2.2.1 63)), (61, (σ.2.2.1 61)), (59, z24.2.2.2.2)] [])) (r := (some (.int z24.1))) (rest := []) (As := []) hS9 (c_M_isFolded l g (mkS σ [(3221, (σ.1 3221)), (3222, (σ.1 3222)), (3214, z1.1), (3215, z1.2.1), (3212, z1.2.2.1)] [] [(64, (σ.2.2.1 64)), (60, (σ.2.2.1 60)), (62, (σ.2.2.1 62)), (63, (σ.2.2.1 63)), (61, (σ.2.2.1 61)), (59, z1.2.2.2)] []) z24.1 z24.2.1 z24.2.2.1 z24.2.2.2.1 z24.2.2.2.2 hc25) (mk_mk rfl rfl rfl rfl) (cwV 0 hts (gz_V mw_5_153 mw_5_155 ms_4_1 mw_1_11 mw_5_156) rfl rfl rfl hdV_X9_isFolded ⟨Nat.le_of_ble_eq_true rfl, Nat.le_of_ble_eq_true rfl⟩) hK hG (ga_50 g _) rfl rfl rfl hl.1 rfl (Nat.le_of_ble_eq_true rfl) dX9_many_138 (fun H locs hG => ?_)
                    refine W.eq (g2 := F0 m 141 ls [.int z24.1]) rfl ?_
                    refine lv_if_eq (tgt := 148) hx hb dX9_many_141 (by decide) (fun c26 => ?_) (fun c26 => ?_)
                    · have h := ite_t c26 h
                      refine lv_iconst (v := (0 : Int32)) hx hb dX9_many_148 (by decide) ?_
                      exact n149 (0 : Int32) (σ.1 3221) (σ.1 3222) z24.2.1 z24.2.2.1 z24.2.2.2.1 (σ.2.2.1 64) (σ.2.2.1 60) (σ.2.2.1 62) (σ.2.2.1 63) (σ.2.2.1 61) z24.2.2.2.2 _ _ _ (lv_sub hl [] rfl) hG h
                    · have h := ite_f c26 h
                      refine lv_iconst (v := (1 : Int32)) hx hb dX9_many_144 (by decide) ?_
                      refine lv_goto (tgt := 149) hx hb dX9_many_145 (by decide) ?_
                      exact n149 (1 : Int32) (σ.1 3221) (σ.1 3222) z24.2.1 z24.2.2.1 z24.2.2.2.1 (σ.2.2.1 64) (σ.2.2.1 60) (σ.2.2.1 62) (σ.2.2.1 63) (σ.2.2.1 61) z24.2.2.2.2 _ _ _ (lv_sub hl [] rfl) hG h
                  · have h := ite_f c23 h
                    by_cases c27 : x1 = (9 : Int32)
                    · have h := ite_t c27 h
                      refine lv_tableIn (off := 145) (tgt := 150) hx hb dX9_many_5 (by rw [c27]; decide) (by rw [c27]; decide) (by rw [c27]; rfl) (by decide) ?_
                      refine lv_aload_n hx hb dX9_many_150 rfl (lv_at hl 0 rfl) ?_
                      obtain ⟨z28, hc29, h⟩ := bnd_some h
                      refine gx_cV (σ' := (mkS σ [(3221, z28.2.1), (3222, z28.2.2.1), (3214, z28.2.2.2.1), (3215, z28.2.2.2.2.1), (3212, z28.2.2.2.2.2.1)] [] [(64, z28.2.2.2.2.2.2.1), (60, (σ.2.2.1 60)), (62, z28.2.2.2.2.2.2.2.1), (63, z28.2.2.2.2.2.2.2.2.1), (61, z28.2.2.2.2.2.2.2.2.2.1), (59, z28.2.2.2.2.2.2.2.2.2.2)] [])) (r := (some (.int z28.1))) (rest := []) (As := []) hS9 (c_M_isLike l g (mkS σ [(3221, (σ.1 3221)), (3222, (σ.1 3222)), (3214, z1.1), (3215, z1.2.1), (3212, z1.2.2.1)] [] [(64, (σ.2.2.1 64)), (60, (σ.2.2.1 60)), (62, (σ.2.2.1 62)), (63, (σ.2.2.1 63)), (61, (σ.2.2.1 61)), (59, z1.2.2.2)] []) z28.1 z28.2.1 z28.2.2.1 z28.2.2.2.1 z28.2.2.2.2.1 z28.2.2.2.2.2.1 z28.2.2.2.2.2.2.1 z28.2.2.2.2.2.2.2.1 z28.2.2.2.2.2.2.2.2.1 z28.2.2.2.2.2.2.2.2.2.1 z28.2.2.2.2.2.2.2.2.2.2 hc29) (mk_mk rfl rfl rfl rfl) (cwV 0 hts (gz_V mw_5_165 mw_5_167 ms_4_4 mw_1_11 mw_5_168) rfl rfl rfl hdV_X9_isLike ⟨Nat.le_of_ble_eq_true rfl, Nat.le_of_ble_eq_true rfl⟩) hK hG (ga_50 g _) rfl rfl rfl hl.1 rfl (Nat.le_of_ble_eq_true rfl) dX9_many_151 (fun H locs hG => ?_)
                      refine W.eq (g2 := F0 m 154 ls [.int z28.1]) rfl ?_
                      refine lv_if_eq (tgt := 161) hx hb dX9_many_154 (by decide) (fun c30 => ?_) (fun c30 => ?_)
                      · have h := ite_t c30 h
                        refine lv_iconst (v := (0 : Int32)) hx hb dX9_many_161 (by decide) ?_
                        exact n162 (0 : Int32) z28.2.1 z28.2.2.1 z28.2.2.2.1 z28.2.2.2.2.1 z28.2.2.2.2.2.1 z28.2.2.2.2.2.2.1 (σ.2.2.1 60) z28.2.2.2.2.2.2.2.1 z28.2.2.2.2.2.2.2.2.1 z28.2.2.2.2.2.2.2.2.2.1 z28.2.2.2.2.2.2.2.2.2.2 _ _ _ (lv_sub hl [] rfl) hG h
                      · have h := ite_f c30 h
                        refine lv_iconst (v := (1 : Int32)) hx hb dX9_many_157 (by decide) ?_
                        refine lv_goto (tgt := 162) hx hb dX9_many_158 (by decide) ?_
                        exact n162 (1 : Int32) z28.2.1 z28.2.2.1 z28.2.2.2.1 z28.2.2.2.2.1 z28.2.2.2.2.2.1 z28.2.2.2.2.2.2.1 (σ.2.2.1 60) z28.2.2.2.2.2.2.2.1 z28.2.2.2.2.2.2.2.2.1 z28.2.2.2.2.2.2.2.2.2.1 z28.2.2.2.2.2.2.2.2.2.2 _ _ _ (lv_sub hl [] rfl) hG h
                    · have h := ite_f c27 h
                      refine lv_tableOut (tgt := 163) hx hb dX9_many_5 (sw_out (fun q h1 h2 => ?_)) (by decide) ?_
                      · rcases (show q = 0 ∨ q = 1 ∨ q = 2 ∨ q = 3 ∨ q = 4 ∨ q = 5 ∨ q = 6 ∨ q = 7 ∨ q = 8 ∨ q = 9 by omega) with rfl | rfl | rfl | rfl | rfl | rfl | rfl | rfl | rfl | rfl
                        · exact lv_neT c3 (by decide)
                        · exact lv_neT c4 (by decide)
                        · exact lv_neT c7 (by decide)
                        · exact lv_neT c8 (by decide)
                        · exact lv_neT c10 (by decide)
                        · exact lv_neT c12 (by decide)
                        · exact lv_neT c15 (by decide)
                        · exact lv_neT c19 (by decide)
                        · exact lv_neT c23 (by decide)
                        · exact lv_neT c27 (by decide)
                      refine lv_iconst (v := (-1 : Int32)) hx hb dX9_many_163 (by decide) ?_
                      cases h
                      exact gx_iret hx hb hr hlocks hG dX9_many_164

set_option maxHeartbeats 4000000 in
set_option maxRecDepth 100000 in
theorem c_M_net (l : Launch) (g : GC) (σ : St) (x1 : Int32) (r : Int32) (w_areKindsFound : Int32) (w_isMeasured : Int32) (w_posts : Int32) (w_road : Nat → Int32) (h : M_net x1 (σ.1 3238) (σ.1 3212) (σ.1 3203) (σ.2.2.1 54) = some (r, w_areKindsFound, w_isMeasured, w_posts, w_road)) : Cn l g yX9_net (Cond.code yX9_net cX9_net 2 (some .int) :: wG) 1 25 [.ref (g.2.1 50), .int x1] σ (some (.int r)) (mkS σ [(3238, w_areKindsFound), (3212, w_isMeasured), (3203, w_posts)] [] [(54, w_road)] []) := by
  unfold Cn
  refine Met.ofW (cc := cX9_net) (maxL := 2) (ret := (some .int)) (by decide) rfl ?_
  intro p e s m args below meth c s₁ B hml hv
  obtain ⟨hargs, hP0, hK⟩ := hv
  have hx := B.exec
  have hb := B.bytes
  have hr := B.returns
  have hts : ∀ w ∈ wG, w.before args s = true := fun w h => atoms_spec (ws := (Cond.code yX9_net cX9_net 2 (some .int) :: wG)) B.pre w (List.mem_cons_of_mem _ h)
  have hown : s.vm.findClass RX9 = some m.cls := findClass_of_methodNamed B.named
  have hlocks := B.notSynchronized
  have hS9 : CallFix p m c cX9_net 2 s args wG RX9 := ⟨hx, hb, hml, hown, hts⟩
  have hw0 := hts _ mw_5_57
  have hf9 : entryFrame m args 2 = _ := (congrArg (fun a => entryFrame m a 2) hargs).trans (lg_entry_eq m [.ref (g.2.1 50), .int x1] 2)
  show Wg p l e 1 25 s m args below meth c g (some (.int r)) (mkS σ [(3238, w_areKindsFound), (3212, w_isMeasured), (3203, w_posts)] [] [(54, w_road)] []) s.heap [] (entryFrame m args 2)
  rw [hf9]
  have hl := lv_entry ([.ref (g.2.1 50), .int x1]) (n := 2) (Nat.le_of_ble_eq_true rfl)
  generalize (lg_sl ([.ref (g.2.1 50), .int x1]) ++ List.replicate (2 - (lg_sl ([.ref (g.2.1 50), .int x1])).length) Slot.unset).toArray = ls at hl ⊢
  have hl : lv_has ls 2 [(0, .ref (g.2.1 50)), (1, .int x1)] := hl
  have hG : GW g s σ s.heap [] := ⟨hP0, va_S.rf⟩
  have hG : GW g s (mkS σ [(3238, (σ.1 3238)), (3212, (σ.1 3212)), (3203, (σ.1 3203))] [] [(54, (σ.2.2.1 54))] []) s.heap [] := GW_self [3238, 3212, 3203] [] [54] [] hG
  unfold M_net at h
  refine lv_iload_n hx hb dX9_net_0 rfl (lv_at hl 1 rfl) ?_
  refine lv_i2l hx hb dX9_net_1 rfl ?_
  refine lv_lconst (v := (0 : Int64)) hx hb dX9_net_2 (by decide) ?_
  refine lv_ldc2 hx hb hown hw0 dX9_net_3 ?_
  obtain ⟨z1, hc2, h⟩ := bnd_some h
  refine gx_cS (σ' := (mkS σ [(3238, (σ.1 3238)), (3212, (σ.1 3212)), (3203, (σ.1 3203))] [] [(54, (σ.2.2.1 54))] [])) (r := (some (.int z1))) (rest := []) (As := [.long (x1.toInt64), .long (0 : Int64), .long (32 : Int64)]) hS9 (c_M_in l g (mkS σ [(3238, (σ.1 3238)), (3212, (σ.1 3212)), (3203, (σ.1 3203))] [] [(54, (σ.2.2.1 54))] []) (x1.toInt64) (0 : Int64) (32 : Int64) z1 hc2) rfl (va_cwS 3 hts (gz_S mw_5_41 mw_5_42 mw_1_11 mw_5_43) rfl rfl rfl hdS_X9_in ⟨Nat.le_of_ble_eq_true rfl, Nat.le_of_ble_eq_true rfl⟩) hK hG rfl hl.1 rfl (Nat.le_of_ble_eq_true rfl) dX9_net_6 (fun H locs hG => ?_)
  refine W.eq (g2 := F0 m 9 ls [.int z1]) rfl ?_
  refine lv_if_ne (tgt := 14) hx hb dX9_net_9 (by decide) (fun c3 => ?_) (fun c3 => ?_)
  · have h := ite_f c3 h
    refine lv_aload_n hx hb dX9_net_14 rfl (lv_at hl 0 rfl) ?_
    refine lv_iload_n hx hb dX9_net_15 rfl (lv_at hl 1 rfl) ?_
    obtain ⟨z4, hc5, h⟩ := bnd_some h
    refine gx_cV (σ' := (mkS σ [(3238, z4.1), (3212, z4.2.1), (3203, z4.2.2.1)] [] [(54, z4.2.2.2)] [])) (r := none) (rest := []) (As := [.int x1]) hS9 (c_M_fresh l g (mkS σ [(3238, (σ.1 3238)), (3212, (σ.1 3212)), (3203, (σ.1 3203))] [] [(54, (σ.2.2.1 54))] []) x1 z4.1 z4.2.1 z4.2.2.1 z4.2.2.2 hc5) (mk_mk rfl rfl rfl rfl) (cwV 1 hts (gz_V mw_5_58 mw_5_60 ms_3_4 mw_1_11 mw_5_61) rfl rfl rfl hdV_X9_fresh ⟨Nat.le_of_ble_eq_true rfl, Nat.le_of_ble_eq_true rfl⟩) hK hG (ga_50 g _) rfl rfl rfl hl.1 rfl (Nat.le_of_ble_eq_true rfl) dX9_net_16 (fun H locs hG => ?_)
    refine W.eq (g2 := F0 m 19 ls []) rfl ?_
    refine lv_iconst (v := (1 : Int32)) hx hb dX9_net_19 (by decide) ?_
    cases h
    exact gx_iret hx hb hr hlocks hG dX9_net_20
  · have h := ite_t c3 h
    refine lv_iconst (v := (-1 : Int32)) hx hb dX9_net_12 (by decide) ?_
    cases h
    exact gx_iret hx hb hr hlocks hG dX9_net_13

set_option maxHeartbeats 4000000 in
set_option maxRecDepth 100000 in
theorem c_M_other (l : Launch) (g : GC) (σ : St) (r : Int32) (w_areKindsFound : Int32) (w_isMeasured : Int32) (w_posts : Int32) (w_newRoad : Nat → Int32) (w_road : Nat → Int32) (h : M_other (σ.1 3238) (σ.1 3212) (σ.1 3203) (σ.2.2.1 70) (σ.2.2.1 54) = some (r, w_areKindsFound, w_isMeasured, w_posts, w_newRoad, w_road)) : Cn l g yX9_other (Cond.code yX9_other cX9_other 3 (some .int) :: wG) 2 45 [.ref (g.2.1 50)] σ (some (.int r)) (mkS σ [(3238, w_areKindsFound), (3212, w_isMeasured), (3203, w_posts)] [] [(70, w_newRoad), (54, w_road)] []) := by
  unfold Cn
  refine Met.ofW (cc := cX9_other) (maxL := 3) (ret := (some .int)) (by decide) rfl ?_
  intro p e s m args below meth c s₁ B hml hv
  obtain ⟨hargs, hP0, hK⟩ := hv
  have hx := B.exec
  have hb := B.bytes
  have hr := B.returns
  have hts : ∀ w ∈ wG, w.before args s = true := fun w h => atoms_spec (ws := (Cond.code yX9_other cX9_other 3 (some .int) :: wG)) B.pre w (List.mem_cons_of_mem _ h)
  have hown : s.vm.findClass RX9 = some m.cls := findClass_of_methodNamed B.named
  have hlocks := B.notSynchronized
  have hS9 : CallFix p m c cX9_other 3 s args wG RX9 := ⟨hx, hb, hml, hown, hts⟩
  have hw0 := hts _ mw_4_142
  have hw1 := hts _ mw_4_168
  have hw2 := hts _ mw_4_143
  have hf9 : entryFrame m args 3 = _ := (congrArg (fun a => entryFrame m a 3) hargs).trans (lg_entry_eq m [.ref (g.2.1 50)] 3)
  show Wg p l e 2 45 s m args below meth c g (some (.int r)) (mkS σ [(3238, w_areKindsFound), (3212, w_isMeasured), (3203, w_posts)] [] [(70, w_newRoad), (54, w_road)] []) s.heap [] (entryFrame m args 3)
  rw [hf9]
  have hl := lv_entry ([.ref (g.2.1 50)]) (n := 3) (Nat.le_of_ble_eq_true rfl)
  generalize (lg_sl ([.ref (g.2.1 50)]) ++ List.replicate (3 - (lg_sl ([.ref (g.2.1 50)])).length) Slot.unset).toArray = ls at hl ⊢
  have hl : lv_has ls 3 [(0, .ref (g.2.1 50))] := hl
  have hG : GW g s σ s.heap [] := ⟨hP0, va_S.rf⟩
  have hG : GW g s (mkS σ [(3238, (σ.1 3238)), (3212, (σ.1 3212)), (3203, (σ.1 3203))] [] [(70, (σ.2.2.1 70)), (54, (σ.2.2.1 54))] []) s.heap [] := GW_self [3238, 3212, 3203] [] [70, 54] [] hG
  unfold M_other at h
  have n58 : ∀ (k16 : Int32 → Int32 → Int32 → Int32 → Int32 → (Nat → Int32) → (Nat → Int32) → Option (Int32 × Int32 × Int32 × Int32 × (Nat → Int32) × (Nat → Int32))) (hk16 : ∀ (x1 : Int32) (x2 : Int32) (v_areKindsFound : Int32) (v_isMeasured : Int32) (v_posts : Int32) (v_newRoad : Nat → Int32) (v_road : Nat → Int32) (H : Heap) (locs : List Loc) (ls : Array Slot), lv_has ls 3 [(0, .ref (g.2.1 50)), (1, .int x1), (2, .int x2)] → GW g s (mkS σ [(3238, v_areKindsFound), (3212, v_isMeasured), (3203, v_posts)] [] [(70, v_newRoad), (54, v_road)] []) H locs → k16 x1 x2 v_areKindsFound v_isMeasured v_posts v_newRoad v_road = some (r, w_areKindsFound, w_isMeasured, w_posts, w_newRoad, w_road) → Wg p l e 2 45 s m args below meth c g (some (.int r)) (mkS σ [(3238, w_areKindsFound), (3212, w_isMeasured), (3203, w_posts)] [] [(70, w_newRoad), (54, w_road)] []) H locs (F0 m 16 ls [])) (x1 : Int32) (x2 : Int32) (t1 : Int32) (t2 : Int32) (v_areKindsFound : Int32) (v_isMeasured : Int32) (v_posts : Int32) (v_newRoad : Nat → Int32) (v_road : Nat → Int32) (H : Heap) (locs : List Loc) (ls : Array Slot), lv_has ls 3 [(0, .ref (g.2.1 50)), (1, .int x1), (2, .int x2)] → GW g s (mkS σ [(3238, v_areKindsFound), (3212, v_isMeasured), (3203, v_posts)] [] [(70, v_newRoad), (54, v_road)] []) H locs → M_other_n58 k16 x1 x2 t1 t2 v_areKindsFound v_isMeasured v_posts v_newRoad v_road = some (r, w_areKindsFound, w_isMeasured, w_posts, w_newRoad, w_road) → Wg p l e 2 45 s m args below meth c g (some (.int r)) (mkS σ [(3238, w_areKindsFound), (3212, w_isMeasured), (3203, w_posts)] [] [(70, w_newRoad), (54, w_road)] []) H locs (F0 m 58 ls [.int t2, .int t1, .ref (g.2.1 70)]) := by
    intro k16 hk16 x1 x2 t1 t2 v_areKindsFound v_isMeasured v_posts v_newRoad v_road H locs ls hl hG h
    unfold M_other_n58 at h
    obtain ⟨hg1, h⟩ := gd_some h
    obtain ⟨hg2, h⟩ := gd_some h
    refine gx_zast (σ' := (mkS σ [(3238, v_areKindsFound), (3212, v_isMeasured), (3203, v_posts)] [] [(70, (upd v_newRoad (t1.toNatClampNeg) t2)), (54, v_road)] [])) (f := v_newRoad) hx hb hK hG (ga_70 g _) hg1 hg2 ((gs_70 g _ _).trans (congrArg (g_cells g) (mk_c 0 rfl rfl))) dX9_other_58 (fun H locs hG => ?_)
    refine lv_iinc (v := (x2 + (1 : Int32))) (lv' := [(2, .int (x2 + (1 : Int32))), (0, .ref (g.2.1 50)), (1, .int x1)]) hx hb dX9_other_59 hl (k := 2) rfl (congrArg (fun z => x2 + z) (by decide)) (Nat.le_of_ble_eq_true rfl) rfl (fun ls hl => ?_)
    refine lv_goto (tgt := 16) hx hb dX9_other_62 (by decide) ?_
    exact hk16 x1 (x2 + (1 : Int32)) v_areKindsFound v_isMeasured v_posts (upd v_newRoad (t1.toNatClampNeg) t2) v_road _ _ _ (lv_sub hl [1, 2, 0] rfl) hG h
  have n57 : ∀ (k16 : Int32 → Int32 → Int32 → Int32 → Int32 → (Nat → Int32) → (Nat → Int32) → Option (Int32 × Int32 × Int32 × Int32 × (Nat → Int32) × (Nat → Int32))) (hk16 : ∀ (x1 : Int32) (x2 : Int32) (v_areKindsFound : Int32) (v_isMeasured : Int32) (v_posts : Int32) (v_newRoad : Nat → Int32) (v_road : Nat → Int32) (H : Heap) (locs : List Loc) (ls : Array Slot), lv_has ls 3 [(0, .ref (g.2.1 50)), (1, .int x1), (2, .int x2)] → GW g s (mkS σ [(3238, v_areKindsFound), (3212, v_isMeasured), (3203, v_posts)] [] [(70, v_newRoad), (54, v_road)] []) H locs → k16 x1 x2 v_areKindsFound v_isMeasured v_posts v_newRoad v_road = some (r, w_areKindsFound, w_isMeasured, w_posts, w_newRoad, w_road) → Wg p l e 2 45 s m args below meth c g (some (.int r)) (mkS σ [(3238, w_areKindsFound), (3212, w_isMeasured), (3203, w_posts)] [] [(70, w_newRoad), (54, w_road)] []) H locs (F0 m 16 ls [])) (x1 : Int32) (x2 : Int32) (t1 : Int32) (v_areKindsFound : Int32) (v_isMeasured : Int32) (v_posts : Int32) (v_newRoad : Nat → Int32) (v_road : Nat → Int32) (H : Heap) (locs : List Loc) (ls : Array Slot), lv_has ls 3 [(0, .ref (g.2.1 50)), (1, .int x1), (2, .int x2)] → GW g s (mkS σ [(3238, v_areKindsFound), (3212, v_isMeasured), (3203, v_posts)] [] [(70, v_newRoad), (54, v_road)] []) H locs → M_other_n57 k16 x1 x2 t1 v_areKindsFound v_isMeasured v_posts v_newRoad v_road = some (r, w_areKindsFound, w_isMeasured, w_posts, w_newRoad, w_road) → Wg p l e 2 45 s m args below meth c g (some (.int r)) (mkS σ [(3238, w_areKindsFound), (3212, w_isMeasured), (3203, w_posts)] [] [(70, w_newRoad), (54, w_road)] []) H locs (F0 m 57 ls [.int t1, .ref (g.2.1 70)]) := by
    intro k16 hk16 x1 x2 t1 v_areKindsFound v_isMeasured v_posts v_newRoad v_road H locs ls hl hG h
    unfold M_other_n57 at h
    refine lv_iconst (v := (0 : Int32)) hx hb dX9_other_57 (by decide) ?_
    exact n58 k16 hk16 x1 x2 t1 (0 : Int32) v_areKindsFound v_isMeasured v_posts v_newRoad v_road _ _ _ (lv_sub hl [0, 1, 2] rfl) hG h
  have n65 : ∀ (k6 : Int32 → Int32 → Int32 → Int32 → (Nat → Int32) → (Nat → Int32) → Option (Int32 × Int32 × Int32 × Int32 × (Nat → Int32) × (Nat → Int32))) (hk6 : ∀ (x1 : Int32) (v_areKindsFound : Int32) (v_isMeasured : Int32) (v_posts : Int32) (v_newRoad : Nat → Int32) (v_road : Nat → Int32) (H : Heap) (locs : List Loc) (ls : Array Slot), lv_has ls 3 [(0, .ref (g.2.1 50)), (1, .int x1)] → GW g s (mkS σ [(3238, v_areKindsFound), (3212, v_isMeasured), (3203, v_posts)] [] [(70, v_newRoad), (54, v_road)] []) H locs → k6 x1 v_areKindsFound v_isMeasured v_posts v_newRoad v_road = some (r, w_areKindsFound, w_isMeasured, w_posts, w_newRoad, w_road) → Wg p l e 2 45 s m args below meth c g (some (.int r)) (mkS σ [(3238, w_areKindsFound), (3212, w_isMeasured), (3203, w_posts)] [] [(70, w_newRoad), (54, w_road)] []) H locs (F0 m 6 ls [])) (x1 : Int32) (v_areKindsFound : Int32) (v_isMeasured : Int32) (v_posts : Int32) (v_newRoad : Nat → Int32) (v_road : Nat → Int32) (H : Heap) (locs : List Loc) (ls : Array Slot), lv_has ls 3 [(0, .ref (g.2.1 50)), (1, .int x1)] → GW g s (mkS σ [(3238, v_areKindsFound), (3212, v_isMeasured), (3203, v_posts)] [] [(70, v_newRoad), (54, v_road)] []) H locs → M_other_n65 k6 x1 v_areKindsFound v_isMeasured v_posts v_newRoad v_road = some (r, w_areKindsFound, w_isMeasured, w_posts, w_newRoad, w_road) → Wg p l e 2 45 s m args below meth c g (some (.int r)) (mkS σ [(3238, w_areKindsFound), (3212, w_isMeasured), (3203, w_posts)] [] [(70, w_newRoad), (54, w_road)] []) H locs (F0 m 65 ls []) := by
    intro k6 hk6 x1 v_areKindsFound v_isMeasured v_posts v_newRoad v_road H locs ls hl hG h
    unfold M_other_n65 at h
    refine lv_iinc (v := (x1 + (1 : Int32))) (lv' := [(1, .int (x1 + (1 : Int32))), (0, .ref (g.2.1 50))]) hx hb dX9_other_65 hl (k := 1) rfl (congrArg (fun z => x1 + z) (by decide)) (Nat.le_of_ble_eq_true rfl) rfl (fun ls hl => ?_)
    refine lv_goto (tgt := 6) hx hb dX9_other_68 (by decide) ?_
    exact hk6 (x1 + (1 : Int32)) v_areKindsFound v_isMeasured v_posts v_newRoad v_road _ _ _ (lv_sub hl [1, 0] rfl) hG h
  have n16 : ∀ (k6 : Int32 → Int32 → Int32 → Int32 → (Nat → Int32) → (Nat → Int32) → Option (Int32 × Int32 × Int32 × Int32 × (Nat → Int32) × (Nat → Int32))) (hk6 : ∀ (x1 : Int32) (v_areKindsFound : Int32) (v_isMeasured : Int32) (v_posts : Int32) (v_newRoad : Nat → Int32) (v_road : Nat → Int32) (H : Heap) (locs : List Loc) (ls : Array Slot), lv_has ls 3 [(0, .ref (g.2.1 50)), (1, .int x1)] → GW g s (mkS σ [(3238, v_areKindsFound), (3212, v_isMeasured), (3203, v_posts)] [] [(70, v_newRoad), (54, v_road)] []) H locs → k6 x1 v_areKindsFound v_isMeasured v_posts v_newRoad v_road = some (r, w_areKindsFound, w_isMeasured, w_posts, w_newRoad, w_road) → Wg p l e 2 45 s m args below meth c g (some (.int r)) (mkS σ [(3238, w_areKindsFound), (3212, w_isMeasured), (3203, w_posts)] [] [(70, w_newRoad), (54, w_road)] []) H locs (F0 m 6 ls [])) (k16 : Int32 → Int32 → Int32 → Int32 → Int32 → (Nat → Int32) → (Nat → Int32) → Option (Int32 × Int32 × Int32 × Int32 × (Nat → Int32) × (Nat → Int32))) (hk16 : ∀ (x1 : Int32) (x2 : Int32) (v_areKindsFound : Int32) (v_isMeasured : Int32) (v_posts : Int32) (v_newRoad : Nat → Int32) (v_road : Nat → Int32) (H : Heap) (locs : List Loc) (ls : Array Slot), lv_has ls 3 [(0, .ref (g.2.1 50)), (1, .int x1), (2, .int x2)] → GW g s (mkS σ [(3238, v_areKindsFound), (3212, v_isMeasured), (3203, v_posts)] [] [(70, v_newRoad), (54, v_road)] []) H locs → k16 x1 x2 v_areKindsFound v_isMeasured v_posts v_newRoad v_road = some (r, w_areKindsFound, w_isMeasured, w_posts, w_newRoad, w_road) → Wg p l e 2 45 s m args below meth c g (some (.int r)) (mkS σ [(3238, w_areKindsFound), (3212, w_isMeasured), (3203, w_posts)] [] [(70, w_newRoad), (54, w_road)] []) H locs (F0 m 16 ls [])) (x1 : Int32) (x2 : Int32) (v_areKindsFound : Int32) (v_isMeasured : Int32) (v_posts : Int32) (v_newRoad : Nat → Int32) (v_road : Nat → Int32) (H : Heap) (locs : List Loc) (ls : Array Slot), lv_has ls 3 [(0, .ref (g.2.1 50)), (1, .int x1), (2, .int x2)] → GW g s (mkS σ [(3238, v_areKindsFound), (3212, v_isMeasured), (3203, v_posts)] [] [(70, v_newRoad), (54, v_road)] []) H locs → M_other_n16 k6 k16 x1 x2 v_areKindsFound v_isMeasured v_posts v_newRoad v_road = some (r, w_areKindsFound, w_isMeasured, w_posts, w_newRoad, w_road) → Wg p l e 2 45 s m args below meth c g (some (.int r)) (mkS σ [(3238, w_areKindsFound), (3212, w_isMeasured), (3203, w_posts)] [] [(70, w_newRoad), (54, w_road)] []) H locs (F0 m 16 ls []) := by
    intro k6 hk6 k16 hk16 x1 x2 v_areKindsFound v_isMeasured v_posts v_newRoad v_road H locs ls hl hG h
    unfold M_other_n16 at h
    refine lv_iload_n hx hb dX9_other_16 rfl (lv_at hl 2 rfl) ?_
    refine lv_aload_n hx hb dX9_other_17 rfl (lv_at hl 0 rfl) ?_
    refine gx_get (v := .int v_posts) (C := RX9) (T := TX9) (N := 44) hx hb hts mc_X9 hown hK hG (ga_50 g _) rfl 3 (by decide) hw0 rfl rfl dX9_other_18 ?_
    refine lv_icmp_ge (tgt := 65) hx hb dX9_other_21 (by decide) (fun c3 => ?_) (fun c3 => ?_)
    · have h := ite_t c3 h
      exact n65 k6 hk6 x1 v_areKindsFound v_isMeasured v_posts v_newRoad v_road _ _ _ (lv_sub hl [0, 1] rfl) hG h
    · have h := ite_f c3 h
      refine lv_aload_n hx hb dX9_other_24 rfl (lv_at hl 0 rfl) ?_
      refine gx_get (v := .ref (g.2.1 70)) (C := RX9) (T := TX9) (N := 44) hx hb hts mc_X9 hown hK hG (ga_50 g _) rfl 29 (by decide) hw1 rfl rfl dX9_other_25 ?_
      refine lv_bipush (v := (32 : Int32)) hx hb dX9_other_28 (by decide) ?_
      refine lv_iload_n hx hb dX9_other_30 rfl (lv_at hl 1 rfl) ?_
      refine lv_imul hx hb dX9_other_31 ?_
      refine lv_iload_n hx hb dX9_other_32 rfl (lv_at hl 2 rfl) ?_
      refine lv_iadd hx hb dX9_other_33 ?_
      refine lv_iload_n hx hb dX9_other_34 rfl (lv_at hl 1 rfl) ?_
      refine lv_iload_n hx hb dX9_other_35 rfl (lv_at hl 2 rfl) ?_
      refine lv_icmp_eq (tgt := 57) hx hb dX9_other_36 (by decide) (fun c4 => ?_) (fun c4 => ?_)
      · have h := ite_t c4 h
        exact n57 k16 hk16 x1 x2 (((32 : Int32) * x1) + x2) v_areKindsFound v_isMeasured v_posts v_newRoad v_road _ _ _ (lv_sub hl [0, 1, 2] rfl) hG h
      · have h := ite_f c4 h
        refine lv_aload_n hx hb dX9_other_39 rfl (lv_at hl 0 rfl) ?_
        refine gx_get (v := .ref (g.2.1 54)) (C := RX9) (T := TX9) (N := 44) hx hb hts mc_X9 hown hK hG (ga_50 g _) rfl 4 (by decide) hw2 rfl rfl dX9_other_40 ?_
        refine lv_bipush (v := (32 : Int32)) hx hb dX9_other_43 (by decide) ?_
        refine lv_iload_n hx hb dX9_other_45 rfl (lv_at hl 1 rfl) ?_
        refine lv_imul hx hb dX9_other_46 ?_
        refine lv_iload_n hx hb dX9_other_47 rfl (lv_at hl 2 rfl) ?_
        refine lv_iadd hx hb dX9_other_48 ?_
        obtain ⟨hg5, h⟩ := gd_some h
        refine gx_zald (f := v_road) hx hb hK hG (ga_54 g _) hg5 dX9_other_49 ?_
        refine lv_if_ne (tgt := 57) hx hb dX9_other_50 (by decide) (fun c6 => ?_) (fun c6 => ?_)
        · have h := ite_f c6 h
          exact n57 k16 hk16 x1 x2 (((32 : Int32) * x1) + x2) v_areKindsFound v_isMeasured v_posts v_newRoad v_road _ _ _ (lv_sub hl [0, 1, 2] rfl) hG h
        · have h := ite_t c6 h
          refine lv_iconst (v := (1 : Int32)) hx hb dX9_other_53 (by decide) ?_
          refine lv_goto (tgt := 58) hx hb dX9_other_54 (by decide) ?_
          exact n58 k16 hk16 x1 x2 (((32 : Int32) * x1) + x2) (1 : Int32) v_areKindsFound v_isMeasured v_posts v_newRoad v_road _ _ _ (lv_sub hl [0, 1, 2] rfl) hG h
  have l16 : ∀ (k6 : Int32 → Int32 → Int32 → Int32 → (Nat → Int32) → (Nat → Int32) → Option (Int32 × Int32 × Int32 × Int32 × (Nat → Int32) × (Nat → Int32))) (hk6 : ∀ (x1 : Int32) (v_areKindsFound : Int32) (v_isMeasured : Int32) (v_posts : Int32) (v_newRoad : Nat → Int32) (v_road : Nat → Int32) (H : Heap) (locs : List Loc) (ls : Array Slot), lv_has ls 3 [(0, .ref (g.2.1 50)), (1, .int x1)] → GW g s (mkS σ [(3238, v_areKindsFound), (3212, v_isMeasured), (3203, v_posts)] [] [(70, v_newRoad), (54, v_road)] []) H locs → k6 x1 v_areKindsFound v_isMeasured v_posts v_newRoad v_road = some (r, w_areKindsFound, w_isMeasured, w_posts, w_newRoad, w_road) → Wg p l e 2 45 s m args below meth c g (some (.int r)) (mkS σ [(3238, w_areKindsFound), (3212, w_isMeasured), (3203, w_posts)] [] [(70, w_newRoad), (54, w_road)] []) H locs (F0 m 6 ls [])) (F : Nat) (x1 : Int32) (x2 : Int32) (v_areKindsFound : Int32) (v_isMeasured : Int32) (v_posts : Int32) (v_newRoad : Nat → Int32) (v_road : Nat → Int32) (H : Heap) (locs : List Loc) (ls : Array Slot), lv_has ls 3 [(0, .ref (g.2.1 50)), (1, .int x1), (2, .int x2)] → GW g s (mkS σ [(3238, v_areKindsFound), (3212, v_isMeasured), (3203, v_posts)] [] [(70, v_newRoad), (54, v_road)] []) H locs → M_other_l16 k6 F x1 x2 v_areKindsFound v_isMeasured v_posts v_newRoad v_road = some (r, w_areKindsFound, w_isMeasured, w_posts, w_newRoad, w_road) → Wg p l e 2 45 s m args below meth c g (some (.int r)) (mkS σ [(3238, w_areKindsFound), (3212, w_isMeasured), (3203, w_posts)] [] [(70, w_newRoad), (54, w_road)] []) H locs (F0 m 16 ls []) := by
    intro k6 hk6 F
    induction F with
    | zero => intro x1 x2 v_areKindsFound v_isMeasured v_posts v_newRoad v_road H locs ls hl hG h; exact no_some h
    | succ F ih => intro x1 x2 v_areKindsFound v_isMeasured v_posts v_newRoad v_road H locs ls hl hG h; exact n16 k6 hk6 (fun x1 x2 v_areKindsFound v_isMeasured v_posts v_newRoad v_road => M_other_l16 k6 F x1 x2 v_areKindsFound v_isMeasured v_posts v_newRoad v_road) ih x1 x2 v_areKindsFound v_isMeasured v_posts v_newRoad v_road H locs ls hl hG h
  have n71 : ∀ (v_areKindsFound : Int32) (v_isMeasured : Int32) (v_posts : Int32) (v_newRoad : Nat → Int32) (v_road : Nat → Int32) (H : Heap) (locs : List Loc) (ls : Array Slot), lv_has ls 3 [(0, .ref (g.2.1 50))] → GW g s (mkS σ [(3238, v_areKindsFound), (3212, v_isMeasured), (3203, v_posts)] [] [(70, v_newRoad), (54, v_road)] []) H locs → M_other_n71 v_areKindsFound v_isMeasured v_posts v_newRoad v_road = some (r, w_areKindsFound, w_isMeasured, w_posts, w_newRoad, w_road) → Wg p l e 2 45 s m args below meth c g (some (.int r)) (mkS σ [(3238, w_areKindsFound), (3212, w_isMeasured), (3203, w_posts)] [] [(70, w_newRoad), (54, w_road)] []) H locs (F0 m 71 ls []) := by
    intro v_areKindsFound v_isMeasured v_posts v_newRoad v_road H locs ls hl hG h
    unfold M_other_n71 at h
    refine lv_aload_n hx hb dX9_other_71 rfl (lv_at hl 0 rfl) ?_
    refine lv_aload_n hx hb dX9_other_72 rfl (lv_at hl 0 rfl) ?_
    refine gx_get (v := .int v_posts) (C := RX9) (T := TX9) (N := 44) hx hb hts mc_X9 hown hK hG (ga_50 g _) rfl 3 (by decide) hw0 rfl rfl dX9_other_73 ?_
    obtain ⟨z7, hc8, h⟩ := bnd_some h
    refine gx_cV (σ' := (mkS σ [(3238, z7.1), (3212, z7.2.1), (3203, z7.2.2.1)] [] [(70, v_newRoad), (54, z7.2.2.2)] [])) (r := none) (rest := []) (As := [.int v_posts]) hS9 (c_M_become l g (mkS σ [(3238, v_areKindsFound), (3212, v_isMeasured), (3203, v_posts)] [] [(70, v_newRoad), (54, v_road)] []) v_posts z7.1 z7.2.1 z7.2.2.1 z7.2.2.2 hc8) (mk_mk rfl rfl rfl rfl) (cwV 1 hts (gz_V mw_6_42 mw_6_44 ms_5_1 mw_1_11 mw_6_45) rfl rfl rfl hdV_X9_become ⟨Nat.le_of_ble_eq_true rfl, Nat.le_of_ble_eq_true rfl⟩) hK hG (ga_50 g _) rfl rfl rfl hl.1 rfl (Nat.le_of_ble_eq_true rfl) dX9_other_76 (fun H locs hG => ?_)
    refine W.eq (g2 := F0 m 79 ls []) rfl ?_
    refine lv_aload_n hx hb dX9_other_79 rfl (lv_at hl 0 rfl) ?_
    obtain ⟨z9, hc10, h⟩ := bnd_some h
    refine gx_cV (σ' := (mkS σ [(3238, z7.1), (3212, z7.2.1), (3203, z7.2.2.1)] [] [(70, v_newRoad), (54, z7.2.2.2)] [])) (r := (some (.int z9))) (rest := []) (As := []) hS9 (c_M_roads l g (mkS σ [(3238, z7.1), (3212, z7.2.1), (3203, z7.2.2.1)] [] [(70, v_newRoad), (54, z7.2.2.2)] []) z9 hc10) rfl (cwV 0 hts (gz_V mw_5_129 mw_5_131 ms_3_11 mw_1_11 mw_5_132) rfl rfl rfl hdV_X9_roads ⟨Nat.le_of_ble_eq_true rfl, Nat.le_of_ble_eq_true rfl⟩) hK hG (ga_50 g _) rfl rfl rfl hl.1 rfl (Nat.le_of_ble_eq_true rfl) dX9_other_80 (fun H locs hG => ?_)
    refine W.eq (g2 := F0 m 83 ls [.int z9]) rfl ?_
    cases h
    exact gx_iret hx hb hr hlocks hG dX9_other_83
  have n6 : ∀ (k6 : Int32 → Int32 → Int32 → Int32 → (Nat → Int32) → (Nat → Int32) → Option (Int32 × Int32 × Int32 × Int32 × (Nat → Int32) × (Nat → Int32))) (hk6 : ∀ (x1 : Int32) (v_areKindsFound : Int32) (v_isMeasured : Int32) (v_posts : Int32) (v_newRoad : Nat → Int32) (v_road : Nat → Int32) (H : Heap) (locs : List Loc) (ls : Array Slot), lv_has ls 3 [(0, .ref (g.2.1 50)), (1, .int x1)] → GW g s (mkS σ [(3238, v_areKindsFound), (3212, v_isMeasured), (3203, v_posts)] [] [(70, v_newRoad), (54, v_road)] []) H locs → k6 x1 v_areKindsFound v_isMeasured v_posts v_newRoad v_road = some (r, w_areKindsFound, w_isMeasured, w_posts, w_newRoad, w_road) → Wg p l e 2 45 s m args below meth c g (some (.int r)) (mkS σ [(3238, w_areKindsFound), (3212, w_isMeasured), (3203, w_posts)] [] [(70, w_newRoad), (54, w_road)] []) H locs (F0 m 6 ls [])) (x1 : Int32) (v_areKindsFound : Int32) (v_isMeasured : Int32) (v_posts : Int32) (v_newRoad : Nat → Int32) (v_road : Nat → Int32) (H : Heap) (locs : List Loc) (ls : Array Slot), lv_has ls 3 [(0, .ref (g.2.1 50)), (1, .int x1)] → GW g s (mkS σ [(3238, v_areKindsFound), (3212, v_isMeasured), (3203, v_posts)] [] [(70, v_newRoad), (54, v_road)] []) H locs → M_other_n6 k6 x1 v_areKindsFound v_isMeasured v_posts v_newRoad v_road = some (r, w_areKindsFound, w_isMeasured, w_posts, w_newRoad, w_road) → Wg p l e 2 45 s m args below meth c g (some (.int r)) (mkS σ [(3238, w_areKindsFound), (3212, w_isMeasured), (3203, w_posts)] [] [(70, w_newRoad), (54, w_road)] []) H locs (F0 m 6 ls []) := by
    intro k6 hk6 x1 v_areKindsFound v_isMeasured v_posts v_newRoad v_road H locs ls hl hG h
    unfold M_other_n6 at h
    refine lv_iload_n hx hb dX9_other_6 rfl (lv_at hl 1 rfl) ?_
    refine lv_aload_n hx hb dX9_other_7 rfl (lv_at hl 0 rfl) ?_
    refine gx_get (v := .int v_posts) (C := RX9) (T := TX9) (N := 44) hx hb hts mc_X9 hown hK hG (ga_50 g _) rfl 3 (by decide) hw0 rfl rfl dX9_other_8 ?_
    refine lv_icmp_ge (tgt := 71) hx hb dX9_other_11 (by decide) (fun c11 => ?_) (fun c11 => ?_)
    · have h := ite_t c11 h
      exact n71 v_areKindsFound v_isMeasured v_posts v_newRoad v_road _ _ _ (lv_sub hl [0] rfl) hG h
    · have h := ite_f c11 h
      refine lv_iconst (v := (0 : Int32)) hx hb dX9_other_14 (by decide) ?_
      refine lv_istore_n (lv' := [(2, .int (0 : Int32)), (0, .ref (g.2.1 50)), (1, .int x1)]) hx hb dX9_other_15 rfl hl (Nat.le_of_ble_eq_true rfl) rfl (fun ls hl => ?_)
      exact l16 k6 hk6 FUEL x1 (0 : Int32) v_areKindsFound v_isMeasured v_posts v_newRoad v_road _ _ _ (lv_sub hl [1, 2, 0] rfl) hG h
  have l6 : ∀  (F : Nat) (x1 : Int32) (v_areKindsFound : Int32) (v_isMeasured : Int32) (v_posts : Int32) (v_newRoad : Nat → Int32) (v_road : Nat → Int32) (H : Heap) (locs : List Loc) (ls : Array Slot), lv_has ls 3 [(0, .ref (g.2.1 50)), (1, .int x1)] → GW g s (mkS σ [(3238, v_areKindsFound), (3212, v_isMeasured), (3203, v_posts)] [] [(70, v_newRoad), (54, v_road)] []) H locs → M_other_l6 F x1 v_areKindsFound v_isMeasured v_posts v_newRoad v_road = some (r, w_areKindsFound, w_isMeasured, w_posts, w_newRoad, w_road) → Wg p l e 2 45 s m args below meth c g (some (.int r)) (mkS σ [(3238, w_areKindsFound), (3212, w_isMeasured), (3203, w_posts)] [] [(70, w_newRoad), (54, w_road)] []) H locs (F0 m 6 ls []) := by
    intro F
    induction F with
    | zero => intro x1 v_areKindsFound v_isMeasured v_posts v_newRoad v_road H locs ls hl hG h; exact no_some h
    | succ F ih => intro x1 v_areKindsFound v_isMeasured v_posts v_newRoad v_road H locs ls hl hG h; exact n6 (fun x1 v_areKindsFound v_isMeasured v_posts v_newRoad v_road => M_other_l6 F x1 v_areKindsFound v_isMeasured v_posts v_newRoad v_road) ih x1 v_areKindsFound v_isMeasured v_posts v_newRoad v_road H locs ls hl hG h
  refine lv_aload_n hx hb dX9_other_0 rfl (lv_at hl 0 rfl) ?_
  obtain ⟨z12, hc13, h⟩ := bnd_some h
  refine gx_cV (σ' := (mkS σ [(3238, (σ.1 3238)), (3212, (σ.1 3212)), (3203, (σ.1 3203))] [] [(70, z12), (54, (σ.2.2.1 54))] [])) (r := none) (rest := []) (As := []) hS9 (c_M_clearNew l g (mkS σ [(3238, (σ.1 3238)), (3212, (σ.1 3212)), (3203, (σ.1 3203))] [] [(70, (σ.2.2.1 70)), (54, (σ.2.2.1 54))] []) z12 hc13) (mk_mk rfl rfl rfl rfl) (cwV 0 hts (gz_V mw_6_38 mw_6_40 ms_5_0 mw_1_11 mw_6_41) rfl rfl rfl hdV_X9_clearNew ⟨Nat.le_of_ble_eq_true rfl, Nat.le_of_ble_eq_true rfl⟩) hK hG (ga_50 g _) rfl rfl rfl hl.1 rfl (Nat.le_of_ble_eq_true rfl) dX9_other_1 (fun H locs hG => ?_)
  refine W.eq (g2 := F0 m 4 ls []) rfl ?_
  refine lv_iconst (v := (0 : Int32)) hx hb dX9_other_4 (by decide) ?_
  refine lv_istore_n (lv' := [(1, .int (0 : Int32)), (0, .ref (g.2.1 50))]) hx hb dX9_other_5 rfl hl (Nat.le_of_ble_eq_true rfl) rfl (fun ls hl => ?_)
  exact l6 FUEL (0 : Int32) (σ.1 3238) (σ.1 3212) (σ.1 3203) z12 (σ.2.2.1 54) _ _ _ (lv_sub hl [1, 0] rfl) hG h

set_option maxHeartbeats 4000000 in
set_option maxRecDepth 100000 in
theorem c_M_perfect (l : Launch) (g : GC) (σ : St) (x1 : Int32) (r : Int32) (w_far : Int32) (w_heaps : Int32) (w_isMeasured : Int32) (w_takenMany : Int32) (w_coveredAt : Nat → Int32) (w_nearTo : Nat → Int32) (w_taken : Nat → Int32) (w_tried : Nat → Int32) (w_wayOf : Nat → Int32) (h : M_perfect x1 (σ.1 3214) (σ.1 3215) (σ.1 3212) (σ.1 3203) (σ.1 3235) (σ.2.2.1 77) (σ.2.2.1 76) (σ.2.2.1 54) (σ.2.2.1 74) (σ.2.2.1 75) (σ.2.2.1 59) = some (r, w_far, w_heaps, w_isMeasured, w_takenMany, w_coveredAt, w_nearTo, w_taken, w_tried, w_wayOf)) : Cn l g yX9_perfect (Cond.code yX9_perfect cX9_perfect 3 (some .int) :: wG) 3 71 [.ref (g.2.1 50), .int x1] σ (some (.int r)) (mkS σ [(3214, w_far), (3215, w_heaps), (3212, w_isMeasured), (3235, w_takenMany)] [] [(77, w_coveredAt), (76, w_nearTo), (74, w_taken), (75, w_tried), (59, w_wayOf)] []) := by
  unfold Cn
  refine Met.ofW (cc := cX9_perfect) (maxL := 3) (ret := (some .int)) (by decide) rfl ?_
  intro p e s m args below meth c s₁ B hml hv
  obtain ⟨hargs, hP0, hK⟩ := hv
  have hx := B.exec
  have hb := B.bytes
  have hr := B.returns
  have hts : ∀ w ∈ wG, w.before args s = true := fun w h => atoms_spec (ws := (Cond.code yX9_perfect cX9_perfect 3 (some .int) :: wG)) B.pre w (List.mem_cons_of_mem _ h)
  have hown : s.vm.findClass RX9 = some m.cls := findClass_of_methodNamed B.named
  have hlocks := B.notSynchronized
  have hS9 : CallFix p m c cX9_perfect 3 s args wG RX9 := ⟨hx, hb, hml, hown, hts⟩
  have hw0 := hts _ mw_4_174
  have hf9 : entryFrame m args 3 = _ := (congrArg (fun a => entryFrame m a 3) hargs).trans (lg_entry_eq m [.ref (g.2.1 50), .int x1] 3)
  show Wg p l e 3 71 s m args below meth c g (some (.int r)) (mkS σ [(3214, w_far), (3215, w_heaps), (3212, w_isMeasured), (3235, w_takenMany)] [] [(77, w_coveredAt), (76, w_nearTo), (74, w_taken), (75, w_tried), (59, w_wayOf)] []) s.heap [] (entryFrame m args 3)
  rw [hf9]
  have hl := lv_entry ([.ref (g.2.1 50), .int x1]) (n := 3) (Nat.le_of_ble_eq_true rfl)
  generalize (lg_sl ([.ref (g.2.1 50), .int x1]) ++ List.replicate (3 - (lg_sl ([.ref (g.2.1 50), .int x1])).length) Slot.unset).toArray = ls at hl ⊢
  have hl : lv_has ls 3 [(0, .ref (g.2.1 50)), (1, .int x1)] := hl
  have hG : GW g s σ s.heap [] := ⟨hP0, va_S.rf⟩
  have hG : GW g s (mkS σ [(3214, (σ.1 3214)), (3215, (σ.1 3215)), (3212, (σ.1 3212)), (3235, (σ.1 3235))] [] [(77, (σ.2.2.1 77)), (76, (σ.2.2.1 76)), (74, (σ.2.2.1 74)), (75, (σ.2.2.1 75)), (59, (σ.2.2.1 59))] []) s.heap [] := GW_self [3214, 3215, 3212, 3235] [] [77, 76, 74, 75, 59] [] hG
  unfold M_perfect at h
  have n18 : ∀ (t0 : Int32) (v_far : Int32) (v_heaps : Int32) (v_isMeasured : Int32) (v_takenMany : Int32) (v_coveredAt : Nat → Int32) (v_nearTo : Nat → Int32) (v_taken : Nat → Int32) (v_tried : Nat → Int32) (v_wayOf : Nat → Int32) (H : Heap) (locs : List Loc) (ls : Array Slot), lv_has ls 3 [] → GW g s (mkS σ [(3214, v_far), (3215, v_heaps), (3212, v_isMeasured), (3235, v_takenMany)] [] [(77, v_coveredAt), (76, v_nearTo), (74, v_taken), (75, v_tried), (59, v_wayOf)] []) H locs → M_perfect_n18 t0 v_far v_heaps v_isMeasured v_takenMany v_coveredAt v_nearTo v_taken v_tried v_wayOf = some (r, w_far, w_heaps, w_isMeasured, w_takenMany, w_coveredAt, w_nearTo, w_taken, w_tried, w_wayOf) → Wg p l e 3 71 s m args below meth c g (some (.int r)) (mkS σ [(3214, w_far), (3215, w_heaps), (3212, w_isMeasured), (3235, w_takenMany)] [] [(77, w_coveredAt), (76, w_nearTo), (74, w_taken), (75, w_tried), (59, w_wayOf)] []) H locs (F0 m 18 ls [.int t0]) := by
    intro t0 v_far v_heaps v_isMeasured v_takenMany v_coveredAt v_nearTo v_taken v_tried v_wayOf H locs ls hl hG h
    unfold M_perfect_n18 at h
    cases h
    exact gx_iret hx hb hr hlocks hG dX9_perfect_18
  refine lv_aload_n hx hb dX9_perfect_0 rfl (lv_at hl 0 rfl) ?_
  refine lv_iload_n hx hb dX9_perfect_1 rfl (lv_at hl 1 rfl) ?_
  obtain ⟨z1, hc2, h⟩ := bnd_some h
  refine gx_cV (σ' := (mkS σ [(3214, z1.2.1), (3215, z1.2.2.1), (3212, z1.2.2.2.1), (3235, z1.2.2.2.2.1)] [] [(77, z1.2.2.2.2.2.1), (76, z1.2.2.2.2.2.2.1), (74, z1.2.2.2.2.2.2.2.1), (75, z1.2.2.2.2.2.2.2.2.1), (59, z1.2.2.2.2.2.2.2.2.2)] [])) (r := (some (.int z1.1))) (rest := []) (As := [.int x1]) hS9 (c_M_find l g (mkS σ [(3214, (σ.1 3214)), (3215, (σ.1 3215)), (3212, (σ.1 3212)), (3235, (σ.1 3235))] [] [(77, (σ.2.2.1 77)), (76, (σ.2.2.1 76)), (74, (σ.2.2.1 74)), (75, (σ.2.2.1 75)), (59, (σ.2.2.1 59))] []) x1 z1.1 z1.2.1 z1.2.2.1 z1.2.2.2.1 z1.2.2.2.2.1 z1.2.2.2.2.2.1 z1.2.2.2.2.2.2.1 z1.2.2.2.2.2.2.2.1 z1.2.2.2.2.2.2.2.2.1 z1.2.2.2.2.2.2.2.2.2 hc2) (mk_mk rfl rfl rfl rfl) (cwV 1 hts (gz_V mw_6_78 mw_6_80 ms_5_2 mw_1_11 mw_6_81) rfl rfl rfl hdV_X9_find ⟨Nat.le_of_ble_eq_true rfl, Nat.le_of_ble_eq_true rfl⟩) hK hG (ga_50 g _) rfl rfl rfl hl.1 rfl (Nat.le_of_ble_eq_true rfl) dX9_perfect_2 (fun H locs hG => ?_)
  refine W.eq (g2 := F0 m 5 ls [.int z1.1]) rfl ?_
  refine lv_istore_n (lv' := [(2, .int z1.1), (0, .ref (g.2.1 50)), (1, .int x1)]) hx hb dX9_perfect_5 rfl hl (Nat.le_of_ble_eq_true rfl) rfl (fun ls hl => ?_)
  refine lv_iload_n hx hb dX9_perfect_6 rfl (lv_at hl 0 rfl) ?_
  refine lv_if_eq (tgt := 14) hx hb dX9_perfect_7 (by decide) (fun c3 => ?_) (fun c3 => ?_)
  · have h := ite_t c3 h
    refine lv_aload_n hx hb dX9_perfect_14 rfl (lv_at hl 1 rfl) ?_
    refine gx_get (v := .int z1.2.2.2.2.1) (C := RX9) (T := TX9) (N := 44) hx hb hts mc_X9 hown hK hG (ga_50 g _) rfl 35 (by decide) hw0 rfl rfl dX9_perfect_15 ?_
    exact n18 z1.2.2.2.2.1 z1.2.1 z1.2.2.1 z1.2.2.2.1 z1.2.2.2.2.1 z1.2.2.2.2.2.1 z1.2.2.2.2.2.2.1 z1.2.2.2.2.2.2.2.1 z1.2.2.2.2.2.2.2.2.1 z1.2.2.2.2.2.2.2.2.2 _ _ _ (lv_sub hl [] rfl) hG h
  · have h := ite_f c3 h
    refine lv_iload_n hx hb dX9_perfect_10 rfl (lv_at hl 0 rfl) ?_
    refine lv_goto (tgt := 18) hx hb dX9_perfect_11 (by decide) ?_
    exact n18 z1.1 z1.2.1 z1.2.2.1 z1.2.2.2.1 z1.2.2.2.2.1 z1.2.2.2.2.2.1 z1.2.2.2.2.2.2.1 z1.2.2.2.2.2.2.2.1 z1.2.2.2.2.2.2.2.2.1 z1.2.2.2.2.2.2.2.2.2 _ _ _ (lv_sub hl [] rfl) hG h

set_option maxHeartbeats 4000000 in
set_option maxRecDepth 100000 in
theorem c_M_posts (l : Launch) (g : GC) (σ : St) (r : Int32) (w_all : Int64) (w_sizes : Nat → Int64) (h : M_posts (σ.1 3208) (σ.2.1 3224) (σ.2.2.1 56) (σ.2.2.1 57) (σ.2.2.2 65) = some (r, w_all, w_sizes)) : Cn l g yX9_posts (Cond.code yX9_posts cX9_posts 1 (some .int) :: wG) 2 47 [.ref (g.2.1 50)] σ (some (.int r)) (mkS σ [] [(3224, w_all)] [] [(65, w_sizes)]) := by
  unfold Cn
  refine Met.ofW (cc := cX9_posts) (maxL := 1) (ret := (some .int)) (by decide) rfl ?_
  intro p e s m args below meth c s₁ B hml hv
  obtain ⟨hargs, hP0, hK⟩ := hv
  have hx := B.exec
  have hb := B.bytes
  have hr := B.returns
  have hts : ∀ w ∈ wG, w.before args s = true := fun w h => atoms_spec (ws := (Cond.code yX9_posts cX9_posts 1 (some .int) :: wG)) B.pre w (List.mem_cons_of_mem _ h)
  have hown : s.vm.findClass RX9 = some m.cls := findClass_of_methodNamed B.named
  have hlocks := B.notSynchronized
  have hS9 : CallFix p m c cX9_posts 1 s args wG RX9 := ⟨hx, hb, hml, hown, hts⟩
  have hw0 := hts _ mw_4_163
  have hf9 : entryFrame m args 1 = _ := (congrArg (fun a => entryFrame m a 1) hargs).trans (lg_entry_eq m [.ref (g.2.1 50)] 1)
  show Wg p l e 2 47 s m args below meth c g (some (.int r)) (mkS σ [] [(3224, w_all)] [] [(65, w_sizes)]) s.heap [] (entryFrame m args 1)
  rw [hf9]
  have hl := lv_entry ([.ref (g.2.1 50)]) (n := 1) (Nat.le_of_ble_eq_true rfl)
  generalize (lg_sl ([.ref (g.2.1 50)]) ++ List.replicate (1 - (lg_sl ([.ref (g.2.1 50)])).length) Slot.unset).toArray = ls at hl ⊢
  have hl : lv_has ls 1 [(0, .ref (g.2.1 50))] := hl
  have hG : GW g s σ s.heap [] := ⟨hP0, va_S.rf⟩
  have hG : GW g s (mkS σ [] [(3224, (σ.2.1 3224))] [] [(65, (σ.2.2.2 65))]) s.heap [] := GW_self [] [3224] [] [65] hG
  unfold M_posts at h
  have n17 : ∀ (t0 : Int32) (v_all : Int64) (v_sizes : Nat → Int64) (H : Heap) (locs : List Loc) (ls : Array Slot), lv_has ls 1 [] → GW g s (mkS σ [] [(3224, v_all)] [] [(65, v_sizes)]) H locs → M_posts_n17 t0 v_all v_sizes = some (r, w_all, w_sizes) → Wg p l e 2 47 s m args below meth c g (some (.int r)) (mkS σ [] [(3224, w_all)] [] [(65, w_sizes)]) H locs (F0 m 17 ls [.int t0]) := by
    intro t0 v_all v_sizes H locs ls hl hG h
    unfold M_posts_n17 at h
    cases h
    exact gx_iret hx hb hr hlocks hG dX9_posts_17
  refine lv_aload_n hx hb dX9_posts_0 rfl (lv_at hl 0 rfl) ?_
  obtain ⟨z1, hc2, h⟩ := bnd_some h
  refine gx_cV (σ' := (mkS σ [] [(3224, z1.2.1)] [] [(65, z1.2.2)])) (r := (some (.int z1.1))) (rest := []) (As := []) hS9 (c_M_firstLaws l g (mkS σ [] [(3224, (σ.2.1 3224))] [] [(65, (σ.2.2.2 65))]) z1.1 z1.2.1 z1.2.2 hc2) (mk_mk rfl rfl rfl rfl) (cwV 0 hts (gz_V mw_5_212 mw_5_214 ms_4_8 mw_1_11 mw_5_215) rfl rfl rfl hdV_X9_firstLaws ⟨Nat.le_of_ble_eq_true rfl, Nat.le_of_ble_eq_true rfl⟩) hK hG (ga_50 g _) rfl rfl rfl hl.1 rfl (Nat.le_of_ble_eq_true rfl) dX9_posts_1 (fun H locs hG => ?_)
  refine W.eq (g2 := F0 m 4 ls [.int z1.1]) rfl ?_
  refine lv_if_le (tgt := 12) hx hb dX9_posts_4 (by decide) (fun c3 => ?_) (fun c3 => ?_)
  · have h := ite_t c3 h
    refine lv_aload_n hx hb dX9_posts_12 rfl (lv_at hl 0 rfl) ?_
    refine gx_get (v := .long z1.2.1) (C := RX9) (T := TX9) (N := 44) hx hb hts mc_X9 hown hK hG (ga_50 g _) rfl 24 (by decide) hw0 rfl rfl dX9_posts_13 ?_
    refine lv_l2i hx hb dX9_posts_16 rfl ?_
    exact n17 (z1.2.1.toInt32) z1.2.1 z1.2.2 _ _ _ (lv_sub hl [] rfl) hG h
  · have h := ite_f c3 h
    refine lv_bipush (v := (-6 : Int32)) hx hb dX9_posts_7 (by decide) ?_
    refine lv_goto (tgt := 17) hx hb dX9_posts_9 (by decide) ?_
    exact n17 (-6 : Int32) z1.2.1 z1.2.2 _ _ _ (lv_sub hl [] rfl) hG h

set_option maxHeartbeats 4000000 in
set_option maxRecDepth 100000 in
theorem c_M_power (l : Launch) (g : GC) (σ : St) (x1 : Int32) (r : Int32) (w_areKindsFound : Int32) (w_far : Int32) (w_heaps : Int32) (w_isMeasured : Int32) (w_posts : Int32) (w_newRoad : Nat → Int32) (w_road : Nat → Int32) (w_wayOf : Nat → Int32) (h : M_power x1 (σ.1 3238) (σ.1 3214) (σ.1 3215) (σ.1 3212) (σ.1 3203) (σ.2.2.1 70) (σ.2.2.1 54) (σ.2.2.1 59) = some (r, w_areKindsFound, w_far, w_heaps, w_isMeasured, w_posts, w_newRoad, w_road, w_wayOf)) : Cn l g yX9_power_ (Cond.code yX9_power_ cX9_power_ 4 (some .int) :: wG) 2 47 [.ref (g.2.1 50), .int x1] σ (some (.int r)) (mkS σ [(3238, w_areKindsFound), (3214, w_far), (3215, w_heaps), (3212, w_isMeasured), (3203, w_posts)] [] [(70, w_newRoad), (54, w_road), (59, w_wayOf)] []) := by
  unfold Cn
  refine Met.ofW (cc := cX9_power_) (maxL := 4) (ret := (some .int)) (by decide) rfl ?_
  intro p e s m args below meth c s₁ B hml hv
  obtain ⟨hargs, hP0, hK⟩ := hv
  have hx := B.exec
  have hb := B.bytes
  have hr := B.returns
  have hts : ∀ w ∈ wG, w.before args s = true := fun w h => atoms_spec (ws := (Cond.code yX9_power_ cX9_power_ 4 (some .int) :: wG)) B.pre w (List.mem_cons_of_mem _ h)
  have hown : s.vm.findClass RX9 = some m.cls := findClass_of_methodNamed B.named
  have hlocks := B.notSynchronized
  have hS9 : CallFix p m c cX9_power_ 4 s args wG RX9 := ⟨hx, hb, hml, hown, hts⟩
  have hw0 := hts _ mw_4_142
  have hw1 := hts _ mw_4_168
  have hw2 := hts _ mw_4_152
  have hf9 : entryFrame m args 4 = _ := (congrArg (fun a => entryFrame m a 4) hargs).trans (lg_entry_eq m [.ref (g.2.1 50), .int x1] 4)
  show Wg p l e 2 47 s m args below meth c g (some (.int r)) (mkS σ [(3238, w_areKindsFound), (3214, w_far), (3215, w_heaps), (3212, w_isMeasured), (3203, w_posts)] [] [(70, w_newRoad), (54, w_road), (59, w_wayOf)] []) s.heap [] (entryFrame m args 4)
  rw [hf9]
  have hl := lv_entry ([.ref (g.2.1 50), .int x1]) (n := 4) (Nat.le_of_ble_eq_true rfl)
  generalize (lg_sl ([.ref (g.2.1 50), .int x1]) ++ List.replicate (4 - (lg_sl ([.ref (g.2.1 50), .int x1])).length) Slot.unset).toArray = ls at hl ⊢
  have hl : lv_has ls 4 [(0, .ref (g.2.1 50)), (1, .int x1)] := hl
  have hG : GW g s σ s.heap [] := ⟨hP0, va_S.rf⟩
  have hG : GW g s (mkS σ [(3238, (σ.1 3238)), (3214, (σ.1 3214)), (3215, (σ.1 3215)), (3212, (σ.1 3212)), (3203, (σ.1 3203))] [] [(70, (σ.2.2.1 70)), (54, (σ.2.2.1 54)), (59, (σ.2.2.1 59))] []) s.heap [] := GW_self [3238, 3214, 3215, 3212, 3203] [] [70, 54, 59] [] hG
  unfold M_power at h
  have n81 : ∀ (k27 : Int32 → Int32 → Int32 → Int32 → Int32 → Int32 → Int32 → Int32 → (Nat → Int32) → (Nat → Int32) → (Nat → Int32) → Option (Int32 × Int32 × Int32 × Int32 × Int32 × Int32 × (Nat → Int32) × (Nat → Int32) × (Nat → Int32))) (hk27 : ∀ (x1 : Int32) (x2 : Int32) (x3 : Int32) (v_areKindsFound : Int32) (v_far : Int32) (v_heaps : Int32) (v_isMeasured : Int32) (v_posts : Int32) (v_newRoad : Nat → Int32) (v_road : Nat → Int32) (v_wayOf : Nat → Int32) (H : Heap) (locs : List Loc) (ls : Array Slot), lv_has ls 4 [(0, .ref (g.2.1 50)), (1, .int x1), (2, .int x2), (3, .int x3)] → GW g s (mkS σ [(3238, v_areKindsFound), (3214, v_far), (3215, v_heaps), (3212, v_isMeasured), (3203, v_posts)] [] [(70, v_newRoad), (54, v_road), (59, v_wayOf)] []) H locs → k27 x1 x2 x3 v_areKindsFound v_far v_heaps v_isMeasured v_posts v_newRoad v_road v_wayOf = some (r, w_areKindsFound, w_far, w_heaps, w_isMeasured, w_posts, w_newRoad, w_road, w_wayOf) → Wg p l e 2 47 s m args below meth c g (some (.int r)) (mkS σ [(3238, w_areKindsFound), (3214, w_far), (3215, w_heaps), (3212, w_isMeasured), (3203, w_posts)] [] [(70, w_newRoad), (54, w_road), (59, w_wayOf)] []) H locs (F0 m 27 ls [])) (x1 : Int32) (x2 : Int32) (x3 : Int32) (t1 : Int32) (t2 : Int32) (v_areKindsFound : Int32) (v_far : Int32) (v_heaps : Int32) (v_isMeasured : Int32) (v_posts : Int32) (v_newRoad : Nat → Int32) (v_road : Nat → Int32) (v_wayOf : Nat → Int32) (H : Heap) (locs : List Loc) (ls : Array Slot), lv_has ls 4 [(0, .ref (g.2.1 50)), (1, .int x1), (2, .int x2), (3, .int x3)] → GW g s (mkS σ [(3238, v_areKindsFound), (3214, v_far), (3215, v_heaps), (3212, v_isMeasured), (3203, v_posts)] [] [(70, v_newRoad), (54, v_road), (59, v_wayOf)] []) H locs → M_power_n81 k27 x1 x2 x3 t1 t2 v_areKindsFound v_far v_heaps v_isMeasured v_posts v_newRoad v_road v_wayOf = some (r, w_areKindsFound, w_far, w_heaps, w_isMeasured, w_posts, w_newRoad, w_road, w_wayOf) → Wg p l e 2 47 s m args below meth c g (some (.int r)) (mkS σ [(3238, w_areKindsFound), (3214, w_far), (3215, w_heaps), (3212, w_isMeasured), (3203, w_posts)] [] [(70, w_newRoad), (54, w_road), (59, w_wayOf)] []) H locs (F0 m 81 ls [.int t2, .int t1, .ref (g.2.1 70)]) := by
    intro k27 hk27 x1 x2 x3 t1 t2 v_areKindsFound v_far v_heaps v_isMeasured v_posts v_newRoad v_road v_wayOf H locs ls hl hG h
    unfold M_power_n81 at h
    obtain ⟨hg1, h⟩ := gd_some h
    obtain ⟨hg2, h⟩ := gd_some h
    refine gx_zast (σ' := (mkS σ [(3238, v_areKindsFound), (3214, v_far), (3215, v_heaps), (3212, v_isMeasured), (3203, v_posts)] [] [(70, (upd v_newRoad (t1.toNatClampNeg) t2)), (54, v_road), (59, v_wayOf)] [])) (f := v_newRoad) hx hb hK hG (ga_70 g _) hg1 hg2 ((gs_70 g _ _).trans (congrArg (g_cells g) (mk_c 0 rfl rfl))) dX9_power__81 (fun H locs hG => ?_)
    refine lv_iinc (v := (x3 + (1 : Int32))) (lv' := [(3, .int (x3 + (1 : Int32))), (0, .ref (g.2.1 50)), (1, .int x1), (2, .int x2)]) hx hb dX9_power__82 hl (k := 3) rfl (congrArg (fun z => x3 + z) (by decide)) (Nat.le_of_ble_eq_true rfl) rfl (fun ls hl => ?_)
    refine lv_goto (tgt := 27) hx hb dX9_power__85 (by decide) ?_
    exact hk27 x1 x2 (x3 + (1 : Int32)) v_areKindsFound v_far v_heaps v_isMeasured v_posts (upd v_newRoad (t1.toNatClampNeg) t2) v_road v_wayOf _ _ _ (lv_sub hl [1, 2, 3, 0] rfl) hG h
  have n80 : ∀ (k27 : Int32 → Int32 → Int32 → Int32 → Int32 → Int32 → Int32 → Int32 → (Nat → Int32) → (Nat → Int32) → (Nat → Int32) → Option (Int32 × Int32 × Int32 × Int32 × Int32 × Int32 × (Nat → Int32) × (Nat → Int32) × (Nat → Int32))) (hk27 : ∀ (x1 : Int32) (x2 : Int32) (x3 : Int32) (v_areKindsFound : Int32) (v_far : Int32) (v_heaps : Int32) (v_isMeasured : Int32) (v_posts : Int32) (v_newRoad : Nat → Int32) (v_road : Nat → Int32) (v_wayOf : Nat → Int32) (H : Heap) (locs : List Loc) (ls : Array Slot), lv_has ls 4 [(0, .ref (g.2.1 50)), (1, .int x1), (2, .int x2), (3, .int x3)] → GW g s (mkS σ [(3238, v_areKindsFound), (3214, v_far), (3215, v_heaps), (3212, v_isMeasured), (3203, v_posts)] [] [(70, v_newRoad), (54, v_road), (59, v_wayOf)] []) H locs → k27 x1 x2 x3 v_areKindsFound v_far v_heaps v_isMeasured v_posts v_newRoad v_road v_wayOf = some (r, w_areKindsFound, w_far, w_heaps, w_isMeasured, w_posts, w_newRoad, w_road, w_wayOf) → Wg p l e 2 47 s m args below meth c g (some (.int r)) (mkS σ [(3238, w_areKindsFound), (3214, w_far), (3215, w_heaps), (3212, w_isMeasured), (3203, w_posts)] [] [(70, w_newRoad), (54, w_road), (59, w_wayOf)] []) H locs (F0 m 27 ls [])) (x1 : Int32) (x2 : Int32) (x3 : Int32) (t1 : Int32) (v_areKindsFound : Int32) (v_far : Int32) (v_heaps : Int32) (v_isMeasured : Int32) (v_posts : Int32) (v_newRoad : Nat → Int32) (v_road : Nat → Int32) (v_wayOf : Nat → Int32) (H : Heap) (locs : List Loc) (ls : Array Slot), lv_has ls 4 [(0, .ref (g.2.1 50)), (1, .int x1), (2, .int x2), (3, .int x3)] → GW g s (mkS σ [(3238, v_areKindsFound), (3214, v_far), (3215, v_heaps), (3212, v_isMeasured), (3203, v_posts)] [] [(70, v_newRoad), (54, v_road), (59, v_wayOf)] []) H locs → M_power_n80 k27 x1 x2 x3 t1 v_areKindsFound v_far v_heaps v_isMeasured v_posts v_newRoad v_road v_wayOf = some (r, w_areKindsFound, w_far, w_heaps, w_isMeasured, w_posts, w_newRoad, w_road, w_wayOf) → Wg p l e 2 47 s m args below meth c g (some (.int r)) (mkS σ [(3238, w_areKindsFound), (3214, w_far), (3215, w_heaps), (3212, w_isMeasured), (3203, w_posts)] [] [(70, w_newRoad), (54, w_road), (59, w_wayOf)] []) H locs (F0 m 80 ls [.int t1, .ref (g.2.1 70)]) := by
    intro k27 hk27 x1 x2 x3 t1 v_areKindsFound v_far v_heaps v_isMeasured v_posts v_newRoad v_road v_wayOf H locs ls hl hG h
    unfold M_power_n80 at h
    refine lv_iconst (v := (0 : Int32)) hx hb dX9_power__80 (by decide) ?_
    exact n81 k27 hk27 x1 x2 x3 t1 (0 : Int32) v_areKindsFound v_far v_heaps v_isMeasured v_posts v_newRoad v_road v_wayOf _ _ _ (lv_sub hl [0, 1, 2, 3] rfl) hG h
  have n88 : ∀ (k17 : Int32 → Int32 → Int32 → Int32 → Int32 → Int32 → Int32 → (Nat → Int32) → (Nat → Int32) → (Nat → Int32) → Option (Int32 × Int32 × Int32 × Int32 × Int32 × Int32 × (Nat → Int32) × (Nat → Int32) × (Nat → Int32))) (hk17 : ∀ (x1 : Int32) (x2 : Int32) (v_areKindsFound : Int32) (v_far : Int32) (v_heaps : Int32) (v_isMeasured : Int32) (v_posts : Int32) (v_newRoad : Nat → Int32) (v_road : Nat → Int32) (v_wayOf : Nat → Int32) (H : Heap) (locs : List Loc) (ls : Array Slot), lv_has ls 4 [(0, .ref (g.2.1 50)), (1, .int x1), (2, .int x2)] → GW g s (mkS σ [(3238, v_areKindsFound), (3214, v_far), (3215, v_heaps), (3212, v_isMeasured), (3203, v_posts)] [] [(70, v_newRoad), (54, v_road), (59, v_wayOf)] []) H locs → k17 x1 x2 v_areKindsFound v_far v_heaps v_isMeasured v_posts v_newRoad v_road v_wayOf = some (r, w_areKindsFound, w_far, w_heaps, w_isMeasured, w_posts, w_newRoad, w_road, w_wayOf) → Wg p l e 2 47 s m args below meth c g (some (.int r)) (mkS σ [(3238, w_areKindsFound), (3214, w_far), (3215, w_heaps), (3212, w_isMeasured), (3203, w_posts)] [] [(70, w_newRoad), (54, w_road), (59, w_wayOf)] []) H locs (F0 m 17 ls [])) (x1 : Int32) (x2 : Int32) (v_areKindsFound : Int32) (v_far : Int32) (v_heaps : Int32) (v_isMeasured : Int32) (v_posts : Int32) (v_newRoad : Nat → Int32) (v_road : Nat → Int32) (v_wayOf : Nat → Int32) (H : Heap) (locs : List Loc) (ls : Array Slot), lv_has ls 4 [(0, .ref (g.2.1 50)), (1, .int x1), (2, .int x2)] → GW g s (mkS σ [(3238, v_areKindsFound), (3214, v_far), (3215, v_heaps), (3212, v_isMeasured), (3203, v_posts)] [] [(70, v_newRoad), (54, v_road), (59, v_wayOf)] []) H locs → M_power_n88 k17 x1 x2 v_areKindsFound v_far v_heaps v_isMeasured v_posts v_newRoad v_road v_wayOf = some (r, w_areKindsFound, w_far, w_heaps, w_isMeasured, w_posts, w_newRoad, w_road, w_wayOf) → Wg p l e 2 47 s m args below meth c g (some (.int r)) (mkS σ [(3238, w_areKindsFound), (3214, w_far), (3215, w_heaps), (3212, w_isMeasured), (3203, w_posts)] [] [(70, w_newRoad), (54, w_road), (59, w_wayOf)] []) H locs (F0 m 88 ls []) := by
    intro k17 hk17 x1 x2 v_areKindsFound v_far v_heaps v_isMeasured v_posts v_newRoad v_road v_wayOf H locs ls hl hG h
    unfold M_power_n88 at h
    refine lv_iinc (v := (x2 + (1 : Int32))) (lv' := [(2, .int (x2 + (1 : Int32))), (0, .ref (g.2.1 50)), (1, .int x1)]) hx hb dX9_power__88 hl (k := 2) rfl (congrArg (fun z => x2 + z) (by decide)) (Nat.le_of_ble_eq_true rfl) rfl (fun ls hl => ?_)
    refine lv_goto (tgt := 17) hx hb dX9_power__91 (by decide) ?_
    exact hk17 x1 (x2 + (1 : Int32)) v_areKindsFound v_far v_heaps v_isMeasured v_posts v_newRoad v_road v_wayOf _ _ _ (lv_sub hl [1, 2, 0] rfl) hG h
  have n27 : ∀ (k17 : Int32 → Int32 → Int32 → Int32 → Int32 → Int32 → Int32 → (Nat → Int32) → (Nat → Int32) → (Nat → Int32) → Option (Int32 × Int32 × Int32 × Int32 × Int32 × Int32 × (Nat → Int32) × (Nat → Int32) × (Nat → Int32))) (hk17 : ∀ (x1 : Int32) (x2 : Int32) (v_areKindsFound : Int32) (v_far : Int32) (v_heaps : Int32) (v_isMeasured : Int32) (v_posts : Int32) (v_newRoad : Nat → Int32) (v_road : Nat → Int32) (v_wayOf : Nat → Int32) (H : Heap) (locs : List Loc) (ls : Array Slot), lv_has ls 4 [(0, .ref (g.2.1 50)), (1, .int x1), (2, .int x2)] → GW g s (mkS σ [(3238, v_areKindsFound), (3214, v_far), (3215, v_heaps), (3212, v_isMeasured), (3203, v_posts)] [] [(70, v_newRoad), (54, v_road), (59, v_wayOf)] []) H locs → k17 x1 x2 v_areKindsFound v_far v_heaps v_isMeasured v_posts v_newRoad v_road v_wayOf = some (r, w_areKindsFound, w_far, w_heaps, w_isMeasured, w_posts, w_newRoad, w_road, w_wayOf) → Wg p l e 2 47 s m args below meth c g (some (.int r)) (mkS σ [(3238, w_areKindsFound), (3214, w_far), (3215, w_heaps), (3212, w_isMeasured), (3203, w_posts)] [] [(70, w_newRoad), (54, w_road), (59, w_wayOf)] []) H locs (F0 m 17 ls [])) (k27 : Int32 → Int32 → Int32 → Int32 → Int32 → Int32 → Int32 → Int32 → (Nat → Int32) → (Nat → Int32) → (Nat → Int32) → Option (Int32 × Int32 × Int32 × Int32 × Int32 × Int32 × (Nat → Int32) × (Nat → Int32) × (Nat → Int32))) (hk27 : ∀ (x1 : Int32) (x2 : Int32) (x3 : Int32) (v_areKindsFound : Int32) (v_far : Int32) (v_heaps : Int32) (v_isMeasured : Int32) (v_posts : Int32) (v_newRoad : Nat → Int32) (v_road : Nat → Int32) (v_wayOf : Nat → Int32) (H : Heap) (locs : List Loc) (ls : Array Slot), lv_has ls 4 [(0, .ref (g.2.1 50)), (1, .int x1), (2, .int x2), (3, .int x3)] → GW g s (mkS σ [(3238, v_areKindsFound), (3214, v_far), (3215, v_heaps), (3212, v_isMeasured), (3203, v_posts)] [] [(70, v_newRoad), (54, v_road), (59, v_wayOf)] []) H locs → k27 x1 x2 x3 v_areKindsFound v_far v_heaps v_isMeasured v_posts v_newRoad v_road v_wayOf = some (r, w_areKindsFound, w_far, w_heaps, w_isMeasured, w_posts, w_newRoad, w_road, w_wayOf) → Wg p l e 2 47 s m args below meth c g (some (.int r)) (mkS σ [(3238, w_areKindsFound), (3214, w_far), (3215, w_heaps), (3212, w_isMeasured), (3203, w_posts)] [] [(70, w_newRoad), (54, w_road), (59, w_wayOf)] []) H locs (F0 m 27 ls [])) (x1 : Int32) (x2 : Int32) (x3 : Int32) (v_areKindsFound : Int32) (v_far : Int32) (v_heaps : Int32) (v_isMeasured : Int32) (v_posts : Int32) (v_newRoad : Nat → Int32) (v_road : Nat → Int32) (v_wayOf : Nat → Int32) (H : Heap) (locs : List Loc) (ls : Array Slot), lv_has ls 4 [(0, .ref (g.2.1 50)), (1, .int x1), (2, .int x2), (3, .int x3)] → GW g s (mkS σ [(3238, v_areKindsFound), (3214, v_far), (3215, v_heaps), (3212, v_isMeasured), (3203, v_posts)] [] [(70, v_newRoad), (54, v_road), (59, v_wayOf)] []) H locs → M_power_n27 k17 k27 x1 x2 x3 v_areKindsFound v_far v_heaps v_isMeasured v_posts v_newRoad v_road v_wayOf = some (r, w_areKindsFound, w_far, w_heaps, w_isMeasured, w_posts, w_newRoad, w_road, w_wayOf) → Wg p l e 2 47 s m args below meth c g (some (.int r)) (mkS σ [(3238, w_areKindsFound), (3214, w_far), (3215, w_heaps), (3212, w_isMeasured), (3203, w_posts)] [] [(70, w_newRoad), (54, w_road), (59, w_wayOf)] []) H locs (F0 m 27 ls []) := by
    intro k17 hk17 k27 hk27 x1 x2 x3 v_areKindsFound v_far v_heaps v_isMeasured v_posts v_newRoad v_road v_wayOf H locs ls hl hG h
    unfold M_power_n27 at h
    refine lv_iload_n hx hb dX9_power__27 rfl (lv_at hl 3 rfl) ?_
    refine lv_aload_n hx hb dX9_power__28 rfl (lv_at hl 0 rfl) ?_
    refine gx_get (v := .int v_posts) (C := RX9) (T := TX9) (N := 44) hx hb hts mc_X9 hown hK hG (ga_50 g _) rfl 3 (by decide) hw0 rfl rfl dX9_power__29 ?_
    refine lv_icmp_ge (tgt := 88) hx hb dX9_power__32 (by decide) (fun c3 => ?_) (fun c3 => ?_)
    · have h := ite_t c3 h
      exact n88 k17 hk17 x1 x2 v_areKindsFound v_far v_heaps v_isMeasured v_posts v_newRoad v_road v_wayOf _ _ _ (lv_sub hl [0, 1, 2] rfl) hG h
    · have h := ite_f c3 h
      refine lv_aload_n hx hb dX9_power__35 rfl (lv_at hl 0 rfl) ?_
      refine gx_get (v := .ref (g.2.1 70)) (C := RX9) (T := TX9) (N := 44) hx hb hts mc_X9 hown hK hG (ga_50 g _) rfl 29 (by decide) hw1 rfl rfl dX9_power__36 ?_
      refine lv_bipush (v := (32 : Int32)) hx hb dX9_power__39 (by decide) ?_
      refine lv_iload_n hx hb dX9_power__41 rfl (lv_at hl 2 rfl) ?_
      refine lv_imul hx hb dX9_power__42 ?_
      refine lv_iload_n hx hb dX9_power__43 rfl (lv_at hl 3 rfl) ?_
      refine lv_iadd hx hb dX9_power__44 ?_
      refine lv_aload_n hx hb dX9_power__45 rfl (lv_at hl 0 rfl) ?_
      refine gx_get (v := .ref (g.2.1 59)) (C := RX9) (T := TX9) (N := 44) hx hb hts mc_X9 hown hK hG (ga_50 g _) rfl 13 (by decide) hw2 rfl rfl dX9_power__46 ?_
      refine lv_bipush (v := (32 : Int32)) hx hb dX9_power__49 (by decide) ?_
      refine lv_iload_n hx hb dX9_power__51 rfl (lv_at hl 2 rfl) ?_
      refine lv_imul hx hb dX9_power__52 ?_
      refine lv_iload_n hx hb dX9_power__53 rfl (lv_at hl 3 rfl) ?_
      refine lv_iadd hx hb dX9_power__54 ?_
      obtain ⟨hg4, h⟩ := gd_some h
      refine gx_iald (f := v_wayOf) hx hb hK hG (ga_59 g _) hg4 dX9_power__55 ?_
      refine lv_bipush (v := (99 : Int32)) hx hb dX9_power__56 (by decide) ?_
      refine lv_icmp_eq (tgt := 80) hx hb dX9_power__58 (by decide) (fun c5 => ?_) (fun c5 => ?_)
      · have h := ite_t c5 h
        exact n80 k27 hk27 x1 x2 x3 (((32 : Int32) * x2) + x3) v_areKindsFound v_far v_heaps v_isMeasured v_posts v_newRoad v_road v_wayOf _ _ _ (lv_sub hl [0, 1, 2, 3] rfl) hG h
      · have h := ite_f c5 h
        refine lv_aload_n hx hb dX9_power__61 rfl (lv_at hl 0 rfl) ?_
        refine gx_get (v := .ref (g.2.1 59)) (C := RX9) (T := TX9) (N := 44) hx hb hts mc_X9 hown hK hG (ga_50 g _) rfl 13 (by decide) hw2 rfl rfl dX9_power__62 ?_
        refine lv_bipush (v := (32 : Int32)) hx hb dX9_power__65 (by decide) ?_
        refine lv_iload_n hx hb dX9_power__67 rfl (lv_at hl 2 rfl) ?_
        refine lv_imul hx hb dX9_power__68 ?_
        refine lv_iload_n hx hb dX9_power__69 rfl (lv_at hl 3 rfl) ?_
        refine lv_iadd hx hb dX9_power__70 ?_
        refine gx_iald (f := v_wayOf) hx hb hK hG (ga_59 g _) hg4 dX9_power__71 ?_
        refine lv_iload_n hx hb dX9_power__72 rfl (lv_at hl 1 rfl) ?_
        refine lv_icmp_ne (tgt := 80) hx hb dX9_power__73 (by decide) (fun c6 => ?_) (fun c6 => ?_)
        · have h := ite_f c6 h
          exact n80 k27 hk27 x1 x2 x3 (((32 : Int32) * x2) + x3) v_areKindsFound v_far v_heaps v_isMeasured v_posts v_newRoad v_road v_wayOf _ _ _ (lv_sub hl [0, 1, 2, 3] rfl) hG h
        · have h := ite_t c6 h
          refine lv_iconst (v := (1 : Int32)) hx hb dX9_power__76 (by decide) ?_
          refine lv_goto (tgt := 81) hx hb dX9_power__77 (by decide) ?_
          exact n81 k27 hk27 x1 x2 x3 (((32 : Int32) * x2) + x3) (1 : Int32) v_areKindsFound v_far v_heaps v_isMeasured v_posts v_newRoad v_road v_wayOf _ _ _ (lv_sub hl [0, 1, 2, 3] rfl) hG h
  have l27 : ∀ (k17 : Int32 → Int32 → Int32 → Int32 → Int32 → Int32 → Int32 → (Nat → Int32) → (Nat → Int32) → (Nat → Int32) → Option (Int32 × Int32 × Int32 × Int32 × Int32 × Int32 × (Nat → Int32) × (Nat → Int32) × (Nat → Int32))) (hk17 : ∀ (x1 : Int32) (x2 : Int32) (v_areKindsFound : Int32) (v_far : Int32) (v_heaps : Int32) (v_isMeasured : Int32) (v_posts : Int32) (v_newRoad : Nat → Int32) (v_road : Nat → Int32) (v_wayOf : Nat → Int32) (H : Heap) (locs : List Loc) (ls : Array Slot), lv_has ls 4 [(0, .ref (g.2.1 50)), (1, .int x1), (2, .int x2)] → GW g s (mkS σ [(3238, v_areKindsFound), (3214, v_far), (3215, v_heaps), (3212, v_isMeasured), (3203, v_posts)] [] [(70, v_newRoad), (54, v_road), (59, v_wayOf)] []) H locs → k17 x1 x2 v_areKindsFound v_far v_heaps v_isMeasured v_posts v_newRoad v_road v_wayOf = some (r, w_areKindsFound, w_far, w_heaps, w_isMeasured, w_posts, w_newRoad, w_road, w_wayOf) → Wg p l e 2 47 s m args below meth c g (some (.int r)) (mkS σ [(3238, w_areKindsFound), (3214, w_far), (3215, w_heaps), (3212, w_isMeasured), (3203, w_posts)] [] [(70, w_newRoad), (54, w_road), (59, w_wayOf)] []) H locs (F0 m 17 ls [])) (F : Nat) (x1 : Int32) (x2 : Int32) (x3 : Int32) (v_areKindsFound : Int32) (v_far : Int32) (v_heaps : Int32) (v_isMeasured : Int32) (v_posts : Int32) (v_newRoad : Nat → Int32) (v_road : Nat → Int32) (v_wayOf : Nat → Int32) (H : Heap) (locs : List Loc) (ls : Array Slot), lv_has ls 4 [(0, .ref (g.2.1 50)), (1, .int x1), (2, .int x2), (3, .int x3)] → GW g s (mkS σ [(3238, v_areKindsFound), (3214, v_far), (3215, v_heaps), (3212, v_isMeasured), (3203, v_posts)] [] [(70, v_newRoad), (54, v_road), (59, v_wayOf)] []) H locs → M_power_l27 k17 F x1 x2 x3 v_areKindsFound v_far v_heaps v_isMeasured v_posts v_newRoad v_road v_wayOf = some (r, w_areKindsFound, w_far, w_heaps, w_isMeasured, w_posts, w_newRoad, w_road, w_wayOf) → Wg p l e 2 47 s m args below meth c g (some (.int r)) (mkS σ [(3238, w_areKindsFound), (3214, w_far), (3215, w_heaps), (3212, w_isMeasured), (3203, w_posts)] [] [(70, w_newRoad), (54, w_road), (59, w_wayOf)] []) H locs (F0 m 27 ls []) := by
    intro k17 hk17 F
    induction F with
    | zero => intro x1 x2 x3 v_areKindsFound v_far v_heaps v_isMeasured v_posts v_newRoad v_road v_wayOf H locs ls hl hG h; exact no_some h
    | succ F ih => intro x1 x2 x3 v_areKindsFound v_far v_heaps v_isMeasured v_posts v_newRoad v_road v_wayOf H locs ls hl hG h; exact n27 k17 hk17 (fun x1 x2 x3 v_areKindsFound v_far v_heaps v_isMeasured v_posts v_newRoad v_road v_wayOf => M_power_l27 k17 F x1 x2 x3 v_areKindsFound v_far v_heaps v_isMeasured v_posts v_newRoad v_road v_wayOf) ih x1 x2 x3 v_areKindsFound v_far v_heaps v_isMeasured v_posts v_newRoad v_road v_wayOf H locs ls hl hG h
  have n94 : ∀ (v_areKindsFound : Int32) (v_far : Int32) (v_heaps : Int32) (v_isMeasured : Int32) (v_posts : Int32) (v_newRoad : Nat → Int32) (v_road : Nat → Int32) (v_wayOf : Nat → Int32) (H : Heap) (locs : List Loc) (ls : Array Slot), lv_has ls 4 [(0, .ref (g.2.1 50))] → GW g s (mkS σ [(3238, v_areKindsFound), (3214, v_far), (3215, v_heaps), (3212, v_isMeasured), (3203, v_posts)] [] [(70, v_newRoad), (54, v_road), (59, v_wayOf)] []) H locs → M_power_n94 v_areKindsFound v_far v_heaps v_isMeasured v_posts v_newRoad v_road v_wayOf = some (r, w_areKindsFound, w_far, w_heaps, w_isMeasured, w_posts, w_newRoad, w_road, w_wayOf) → Wg p l e 2 47 s m args below meth c g (some (.int r)) (mkS σ [(3238, w_areKindsFound), (3214, w_far), (3215, w_heaps), (3212, w_isMeasured), (3203, w_posts)] [] [(70, w_newRoad), (54, w_road), (59, w_wayOf)] []) H locs (F0 m 94 ls []) := by
    intro v_areKindsFound v_far v_heaps v_isMeasured v_posts v_newRoad v_road v_wayOf H locs ls hl hG h
    unfold M_power_n94 at h
    refine lv_aload_n hx hb dX9_power__94 rfl (lv_at hl 0 rfl) ?_
    refine lv_aload_n hx hb dX9_power__95 rfl (lv_at hl 0 rfl) ?_
    refine gx_get (v := .int v_posts) (C := RX9) (T := TX9) (N := 44) hx hb hts mc_X9 hown hK hG (ga_50 g _) rfl 3 (by decide) hw0 rfl rfl dX9_power__96 ?_
    obtain ⟨z7, hc8, h⟩ := bnd_some h
    refine gx_cV (σ' := (mkS σ [(3238, z7.1), (3214, v_far), (3215, v_heaps), (3212, z7.2.1), (3203, z7.2.2.1)] [] [(70, v_newRoad), (54, z7.2.2.2), (59, v_wayOf)] [])) (r := none) (rest := []) (As := [.int v_posts]) hS9 (c_M_become l g (mkS σ [(3238, v_areKindsFound), (3214, v_far), (3215, v_heaps), (3212, v_isMeasured), (3203, v_posts)] [] [(70, v_newRoad), (54, v_road), (59, v_wayOf)] []) v_posts z7.1 z7.2.1 z7.2.2.1 z7.2.2.2 hc8) (mk_mk rfl rfl rfl rfl) (cwV 1 hts (gz_V mw_6_42 mw_6_44 ms_5_1 mw_1_11 mw_6_45) rfl rfl rfl hdV_X9_become ⟨Nat.le_of_ble_eq_true rfl, Nat.le_of_ble_eq_true rfl⟩) hK hG (ga_50 g _) rfl rfl rfl hl.1 rfl (Nat.le_of_ble_eq_true rfl) dX9_power__99 (fun H locs hG => ?_)
    refine W.eq (g2 := F0 m 102 ls []) rfl ?_
    refine lv_aload_n hx hb dX9_power__102 rfl (lv_at hl 0 rfl) ?_
    obtain ⟨z9, hc10, h⟩ := bnd_some h
    refine gx_cV (σ' := (mkS σ [(3238, z7.1), (3214, v_far), (3215, v_heaps), (3212, z7.2.1), (3203, z7.2.2.1)] [] [(70, v_newRoad), (54, z7.2.2.2), (59, v_wayOf)] [])) (r := (some (.int z9))) (rest := []) (As := []) hS9 (c_M_roads l g (mkS σ [(3238, z7.1), (3214, v_far), (3215, v_heaps), (3212, z7.2.1), (3203, z7.2.2.1)] [] [(70, v_newRoad), (54, z7.2.2.2), (59, v_wayOf)] []) z9 hc10) rfl (cwV 0 hts (gz_V mw_5_129 mw_5_131 ms_3_11 mw_1_11 mw_5_132) rfl rfl rfl hdV_X9_roads ⟨Nat.le_of_ble_eq_true rfl, Nat.le_of_ble_eq_true rfl⟩) hK hG (ga_50 g _) rfl rfl rfl hl.1 rfl (Nat.le_of_ble_eq_true rfl) dX9_power__103 (fun H locs hG => ?_)
    refine W.eq (g2 := F0 m 106 ls [.int z9]) rfl ?_
    cases h
    exact gx_iret hx hb hr hlocks hG dX9_power__106
  have n17 : ∀ (k17 : Int32 → Int32 → Int32 → Int32 → Int32 → Int32 → Int32 → (Nat → Int32) → (Nat → Int32) → (Nat → Int32) → Option (Int32 × Int32 × Int32 × Int32 × Int32 × Int32 × (Nat → Int32) × (Nat → Int32) × (Nat → Int32))) (hk17 : ∀ (x1 : Int32) (x2 : Int32) (v_areKindsFound : Int32) (v_far : Int32) (v_heaps : Int32) (v_isMeasured : Int32) (v_posts : Int32) (v_newRoad : Nat → Int32) (v_road : Nat → Int32) (v_wayOf : Nat → Int32) (H : Heap) (locs : List Loc) (ls : Array Slot), lv_has ls 4 [(0, .ref (g.2.1 50)), (1, .int x1), (2, .int x2)] → GW g s (mkS σ [(3238, v_areKindsFound), (3214, v_far), (3215, v_heaps), (3212, v_isMeasured), (3203, v_posts)] [] [(70, v_newRoad), (54, v_road), (59, v_wayOf)] []) H locs → k17 x1 x2 v_areKindsFound v_far v_heaps v_isMeasured v_posts v_newRoad v_road v_wayOf = some (r, w_areKindsFound, w_far, w_heaps, w_isMeasured, w_posts, w_newRoad, w_road, w_wayOf) → Wg p l e 2 47 s m args below meth c g (some (.int r)) (mkS σ [(3238, w_areKindsFound), (3214, w_far), (3215, w_heaps), (3212, w_isMeasured), (3203, w_posts)] [] [(70, w_newRoad), (54, w_road), (59, w_wayOf)] []) H locs (F0 m 17 ls [])) (x1 : Int32) (x2 : Int32) (v_areKindsFound : Int32) (v_far : Int32) (v_heaps : Int32) (v_isMeasured : Int32) (v_posts : Int32) (v_newRoad : Nat → Int32) (v_road : Nat → Int32) (v_wayOf : Nat → Int32) (H : Heap) (locs : List Loc) (ls : Array Slot), lv_has ls 4 [(0, .ref (g.2.1 50)), (1, .int x1), (2, .int x2)] → GW g s (mkS σ [(3238, v_areKindsFound), (3214, v_far), (3215, v_heaps), (3212, v_isMeasured), (3203, v_posts)] [] [(70, v_newRoad), (54, v_road), (59, v_wayOf)] []) H locs → M_power_n17 k17 x1 x2 v_areKindsFound v_far v_heaps v_isMeasured v_posts v_newRoad v_road v_wayOf = some (r, w_areKindsFound, w_far, w_heaps, w_isMeasured, w_posts, w_newRoad, w_road, w_wayOf) → Wg p l e 2 47 s m args below meth c g (some (.int r)) (mkS σ [(3238, w_areKindsFound), (3214, w_far), (3215, w_heaps), (3212, w_isMeasured), (3203, w_posts)] [] [(70, w_newRoad), (54, w_road), (59, w_wayOf)] []) H locs (F0 m 17 ls []) := by
    intro k17 hk17 x1 x2 v_areKindsFound v_far v_heaps v_isMeasured v_posts v_newRoad v_road v_wayOf H locs ls hl hG h
    unfold M_power_n17 at h
    refine lv_iload_n hx hb dX9_power__17 rfl (lv_at hl 2 rfl) ?_
    refine lv_aload_n hx hb dX9_power__18 rfl (lv_at hl 0 rfl) ?_
    refine gx_get (v := .int v_posts) (C := RX9) (T := TX9) (N := 44) hx hb hts mc_X9 hown hK hG (ga_50 g _) rfl 3 (by decide) hw0 rfl rfl dX9_power__19 ?_
    refine lv_icmp_ge (tgt := 94) hx hb dX9_power__22 (by decide) (fun c11 => ?_) (fun c11 => ?_)
    · have h := ite_t c11 h
      exact n94 v_areKindsFound v_far v_heaps v_isMeasured v_posts v_newRoad v_road v_wayOf _ _ _ (lv_sub hl [0] rfl) hG h
    · have h := ite_f c11 h
      refine lv_iconst (v := (0 : Int32)) hx hb dX9_power__25 (by decide) ?_
      refine lv_istore_n (lv' := [(3, .int (0 : Int32)), (0, .ref (g.2.1 50)), (1, .int x1), (2, .int x2)]) hx hb dX9_power__26 rfl hl (Nat.le_of_ble_eq_true rfl) rfl (fun ls hl => ?_)
      exact l27 k17 hk17 FUEL x1 x2 (0 : Int32) v_areKindsFound v_far v_heaps v_isMeasured v_posts v_newRoad v_road v_wayOf _ _ _ (lv_sub hl [1, 2, 3, 0] rfl) hG h
  have l17 : ∀  (F : Nat) (x1 : Int32) (x2 : Int32) (v_areKindsFound : Int32) (v_far : Int32) (v_heaps : Int32) (v_isMeasured : Int32) (v_posts : Int32) (v_newRoad : Nat → Int32) (v_road : Nat → Int32) (v_wayOf : Nat → Int32) (H : Heap) (locs : List Loc) (ls : Array Slot), lv_has ls 4 [(0, .ref (g.2.1 50)), (1, .int x1), (2, .int x2)] → GW g s (mkS σ [(3238, v_areKindsFound), (3214, v_far), (3215, v_heaps), (3212, v_isMeasured), (3203, v_posts)] [] [(70, v_newRoad), (54, v_road), (59, v_wayOf)] []) H locs → M_power_l17 F x1 x2 v_areKindsFound v_far v_heaps v_isMeasured v_posts v_newRoad v_road v_wayOf = some (r, w_areKindsFound, w_far, w_heaps, w_isMeasured, w_posts, w_newRoad, w_road, w_wayOf) → Wg p l e 2 47 s m args below meth c g (some (.int r)) (mkS σ [(3238, w_areKindsFound), (3214, w_far), (3215, w_heaps), (3212, w_isMeasured), (3203, w_posts)] [] [(70, w_newRoad), (54, w_road), (59, w_wayOf)] []) H locs (F0 m 17 ls []) := by
    intro F
    induction F with
    | zero => intro x1 x2 v_areKindsFound v_far v_heaps v_isMeasured v_posts v_newRoad v_road v_wayOf H locs ls hl hG h; exact no_some h
    | succ F ih => intro x1 x2 v_areKindsFound v_far v_heaps v_isMeasured v_posts v_newRoad v_road v_wayOf H locs ls hl hG h; exact n17 (fun x1 x2 v_areKindsFound v_far v_heaps v_isMeasured v_posts v_newRoad v_road v_wayOf => M_power_l17 F x1 x2 v_areKindsFound v_far v_heaps v_isMeasured v_posts v_newRoad v_road v_wayOf) ih x1 x2 v_areKindsFound v_far v_heaps v_isMeasured v_posts v_newRoad v_road v_wayOf H locs ls hl hG h
  refine lv_iload_n hx hb dX9_power__0 rfl (lv_at hl 1 rfl) ?_
  refine lv_iconst (v := (1 : Int32)) hx hb dX9_power__1 (by decide) ?_
  refine lv_icmp_ge (tgt := 7) hx hb dX9_power__2 (by decide) (fun c12 => ?_) (fun c12 => ?_)
  · have h := ite_t c12 h
    refine lv_aload_n hx hb dX9_power__7 rfl (lv_at hl 0 rfl) ?_
    obtain ⟨z13, hc14, h⟩ := bnd_some h
    refine gx_cV (σ' := (mkS σ [(3238, (σ.1 3238)), (3214, z13.1), (3215, z13.2.1), (3212, z13.2.2.1), (3203, (σ.1 3203))] [] [(70, (σ.2.2.1 70)), (54, (σ.2.2.1 54)), (59, z13.2.2.2)] [])) (r := none) (rest := []) (As := []) hS9 (c_M_measure l g (mkS σ [(3238, (σ.1 3238)), (3214, (σ.1 3214)), (3215, (σ.1 3215)), (3212, (σ.1 3212)), (3203, (σ.1 3203))] [] [(70, (σ.2.2.1 70)), (54, (σ.2.2.1 54)), (59, (σ.2.2.1 59))] []) z13.1 z13.2.1 z13.2.2.1 z13.2.2.2 hc14) (mk_mk rfl rfl rfl rfl) (cwV 0 hts (gz_V mw_5_117 mw_5_119 ms_3_9 mw_1_11 mw_5_120) rfl rfl rfl hdV_X9_measure ⟨Nat.le_of_ble_eq_true rfl, Nat.le_of_ble_eq_true rfl⟩) hK hG (ga_50 g _) rfl rfl rfl hl.1 rfl (Nat.le_of_ble_eq_true rfl) dX9_power__8 (fun H locs hG => ?_)
    refine W.eq (g2 := F0 m 11 ls []) rfl ?_
    refine lv_aload_n hx hb dX9_power__11 rfl (lv_at hl 0 rfl) ?_
    obtain ⟨z15, hc16, h⟩ := bnd_some h
    refine gx_cV (σ' := (mkS σ [(3238, (σ.1 3238)), (3214, z13.1), (3215, z13.2.1), (3212, z13.2.2.1), (3203, (σ.1 3203))] [] [(70, z15), (54, (σ.2.2.1 54)), (59, z13.2.2.2)] [])) (r := none) (rest := []) (As := []) hS9 (c_M_clearNew l g (mkS σ [(3238, (σ.1 3238)), (3214, z13.1), (3215, z13.2.1), (3212, z13.2.2.1), (3203, (σ.1 3203))] [] [(70, (σ.2.2.1 70)), (54, (σ.2.2.1 54)), (59, z13.2.2.2)] []) z15 hc16) (mk_mk rfl rfl rfl rfl) (cwV 0 hts (gz_V mw_6_38 mw_6_40 ms_5_0 mw_1_11 mw_6_41) rfl rfl rfl hdV_X9_clearNew ⟨Nat.le_of_ble_eq_true rfl, Nat.le_of_ble_eq_true rfl⟩) hK hG (ga_50 g _) rfl rfl rfl hl.1 rfl (Nat.le_of_ble_eq_true rfl) dX9_power__12 (fun H locs hG => ?_)
    refine W.eq (g2 := F0 m 15 ls []) rfl ?_
    refine lv_iconst (v := (0 : Int32)) hx hb dX9_power__15 (by decide) ?_
    refine lv_istore_n (lv' := [(2, .int (0 : Int32)), (0, .ref (g.2.1 50)), (1, .int x1)]) hx hb dX9_power__16 rfl hl (Nat.le_of_ble_eq_true rfl) rfl (fun ls hl => ?_)
    exact l17 FUEL x1 (0 : Int32) (σ.1 3238) z13.1 z13.2.1 z13.2.2.1 (σ.1 3203) z15 (σ.2.2.1 54) z13.2.2.2 _ _ _ (lv_sub hl [1, 2, 0] rfl) hG h
  · have h := ite_f c12 h
    refine lv_iconst (v := (-1 : Int32)) hx hb dX9_power__5 (by decide) ?_
    cases h
    exact gx_iret hx hb hr hlocks hG dX9_power__6

set_option maxHeartbeats 4000000 in
set_option maxRecDepth 100000 in
theorem c_M_put (l : Launch) (g : GC) (σ : St) (x1 : Int32) (x2 : Int32) (x3 : Int32) (r : Int32) (w_toldB : Nat → Int32) (w_toldC : Nat → Int32) (h : M_put x1 x2 x3 (σ.1 3208) (σ.2.2.1 56) (σ.2.2.1 57) = some (r, w_toldB, w_toldC)) : Cn l g yX9_put (Cond.code yX9_put cX9_put 4 (some .int) :: wG) 1 25 [.ref (g.2.1 50), .int x1, .int x2, .int x3] σ (some (.int r)) (mkS σ [] [] [(56, w_toldB), (57, w_toldC)] []) := by
  unfold Cn
  refine Met.ofW (cc := cX9_put) (maxL := 4) (ret := (some .int)) (by decide) rfl ?_
  intro p e s m args below meth c s₁ B hml hv
  obtain ⟨hargs, hP0, hK⟩ := hv
  have hx := B.exec
  have hb := B.bytes
  have hr := B.returns
  have hts : ∀ w ∈ wG, w.before args s = true := fun w h => atoms_spec (ws := (Cond.code yX9_put cX9_put 4 (some .int) :: wG)) B.pre w (List.mem_cons_of_mem _ h)
  have hown : s.vm.findClass RX9 = some m.cls := findClass_of_methodNamed B.named
  have hlocks := B.notSynchronized
  have hS9 : CallFix p m c cX9_put 4 s args wG RX9 := ⟨hx, hb, hml, hown, hts⟩
  have hw0 := hts _ mw_5_198
  have hw1 := hts _ mw_4_147
  have hw2 := hts _ mw_4_149
  have hw3 := hts _ mw_4_148
  have hf9 : entryFrame m args 4 = _ := (congrArg (fun a => entryFrame m a 4) hargs).trans (lg_entry_eq m [.ref (g.2.1 50), .int x1, .int x2, .int x3] 4)
  show Wg p l e 1 25 s m args below meth c g (some (.int r)) (mkS σ [] [] [(56, w_toldB), (57, w_toldC)] []) s.heap [] (entryFrame m args 4)
  rw [hf9]
  have hl := lv_entry ([.ref (g.2.1 50), .int x1, .int x2, .int x3]) (n := 4) (Nat.le_of_ble_eq_true rfl)
  generalize (lg_sl ([.ref (g.2.1 50), .int x1, .int x2, .int x3]) ++ List.replicate (4 - (lg_sl ([.ref (g.2.1 50), .int x1, .int x2, .int x3])).length) Slot.unset).toArray = ls at hl ⊢
  have hl : lv_has ls 4 [(0, .ref (g.2.1 50)), (1, .int x1), (2, .int x2), (3, .int x3)] := hl
  have hG : GW g s σ s.heap [] := ⟨hP0, va_S.rf⟩
  have hG : GW g s (mkS σ [] [] [(56, (σ.2.2.1 56)), (57, (σ.2.2.1 57))] []) s.heap [] := GW_self [] [] [56, 57] [] hG
  unfold M_put at h
  have n41 : ∀ (v_toldB : Nat → Int32) (v_toldC : Nat → Int32) (H : Heap) (locs : List Loc) (ls : Array Slot), lv_has ls 4 [] → GW g s (mkS σ [] [] [(56, v_toldB), (57, v_toldC)] []) H locs → M_put_n41 v_toldB v_toldC = some (r, w_toldB, w_toldC) → Wg p l e 1 25 s m args below meth c g (some (.int r)) (mkS σ [] [] [(56, w_toldB), (57, w_toldC)] []) H locs (F0 m 41 ls []) := by
    intro v_toldB v_toldC H locs ls hl hG h
    unfold M_put_n41 at h
    refine lv_iconst (v := (-1 : Int32)) hx hb dX9_put_41 (by decide) ?_
    cases h
    exact gx_iret hx hb hr hlocks hG dX9_put_42
  have n64 : ∀ (v_toldB : Nat → Int32) (v_toldC : Nat → Int32) (H : Heap) (locs : List Loc) (ls : Array Slot), lv_has ls 4 [] → GW g s (mkS σ [] [] [(56, v_toldB), (57, v_toldC)] []) H locs → M_put_n64 v_toldB v_toldC = some (r, w_toldB, w_toldC) → Wg p l e 1 25 s m args below meth c g (some (.int r)) (mkS σ [] [] [(56, w_toldB), (57, w_toldC)] []) H locs (F0 m 64 ls []) := by
    intro v_toldB v_toldC H locs ls hl hG h
    unfold M_put_n64 at h
    refine lv_iconst (v := (1 : Int32)) hx hb dX9_put_64 (by decide) ?_
    cases h
    exact gx_iret hx hb hr hlocks hG dX9_put_65
  refine lv_iload_n hx hb dX9_put_0 rfl (lv_at hl 1 rfl) ?_
  refine lv_i2l hx hb dX9_put_1 rfl ?_
  refine lv_lconst (v := (0 : Int64)) hx hb dX9_put_2 (by decide) ?_
  refine lv_lconst (v := (1 : Int64)) hx hb dX9_put_3 (by decide) ?_
  obtain ⟨z1, hc2, h⟩ := bnd_some h
  refine gx_cS (σ' := (mkS σ [] [] [(56, (σ.2.2.1 56)), (57, (σ.2.2.1 57))] [])) (r := (some (.int z1))) (rest := []) (As := [.long (x1.toInt64), .long (0 : Int64), .long (1 : Int64)]) hS9 (c_M_in l g (mkS σ [] [] [(56, (σ.2.2.1 56)), (57, (σ.2.2.1 57))] []) (x1.toInt64) (0 : Int64) (1 : Int64) z1 hc2) rfl (va_cwS 3 hts (gz_S mw_5_41 mw_5_42 mw_1_11 mw_5_43) rfl rfl rfl hdS_X9_in ⟨Nat.le_of_ble_eq_true rfl, Nat.le_of_ble_eq_true rfl⟩) hK hG rfl hl.1 rfl (Nat.le_of_ble_eq_true rfl) dX9_put_4 (fun H locs hG => ?_)
  refine W.eq (g2 := F0 m 7 ls [.int z1]) rfl ?_
  refine lv_if_eq (tgt := 41) hx hb dX9_put_7 (by decide) (fun c3 => ?_) (fun c3 => ?_)
  · have h := ite_t c3 h
    exact n41 (σ.2.2.1 56) (σ.2.2.1 57) _ _ _ (lv_sub hl [] rfl) hG h
  · have h := ite_f c3 h
    refine lv_iload_n hx hb dX9_put_10 rfl (lv_at hl 3 rfl) ?_
    refine lv_i2l hx hb dX9_put_11 rfl ?_
    refine lv_lconst (v := (0 : Int64)) hx hb dX9_put_12 (by decide) ?_
    refine lv_ldc2 hx hb hown hw0 dX9_put_13 ?_
    obtain ⟨z4, hc5, h⟩ := bnd_some h
    refine gx_cS (σ' := (mkS σ [] [] [(56, (σ.2.2.1 56)), (57, (σ.2.2.1 57))] [])) (r := (some (.int z4))) (rest := []) (As := [.long (x3.toInt64), .long (0 : Int64), .long (20 : Int64)]) hS9 (c_M_in l g (mkS σ [] [] [(56, (σ.2.2.1 56)), (57, (σ.2.2.1 57))] []) (x3.toInt64) (0 : Int64) (20 : Int64) z4 hc5) rfl (va_cwS 3 hts (gz_S mw_5_41 mw_5_42 mw_1_11 mw_5_43) rfl rfl rfl hdS_X9_in ⟨Nat.le_of_ble_eq_true rfl, Nat.le_of_ble_eq_true rfl⟩) hK hG rfl hl.1 rfl (Nat.le_of_ble_eq_true rfl) dX9_put_16 (fun H locs hG => ?_)
    refine W.eq (g2 := F0 m 19 ls [.int z4]) rfl ?_
    refine lv_if_eq (tgt := 41) hx hb dX9_put_19 (by decide) (fun c6 => ?_) (fun c6 => ?_)
    · have h := ite_t c6 h
      exact n41 (σ.2.2.1 56) (σ.2.2.1 57) _ _ _ (lv_sub hl [] rfl) hG h
    · have h := ite_f c6 h
      refine lv_iload_n hx hb dX9_put_22 rfl (lv_at hl 2 rfl) ?_
      refine lv_i2l hx hb dX9_put_23 rfl ?_
      refine lv_iload_n hx hb dX9_put_24 rfl (lv_at hl 1 rfl) ?_
      refine lv_i2l hx hb dX9_put_25 rfl ?_
      refine lv_aload_n hx hb dX9_put_26 rfl (lv_at hl 0 rfl) ?_
      refine gx_get (v := .int (σ.1 3208)) (C := RX9) (T := TX9) (N := 44) hx hb hts mc_X9 hown hK hG (ga_50 g _) rfl 8 (by decide) hw1 rfl rfl dX9_put_27 ?_
      refine lv_iconst (v := (1 : Int32)) hx hb dX9_put_30 (by decide) ?_
      refine lv_isub hx hb dX9_put_31 ?_
      refine lv_iload_n hx hb dX9_put_32 rfl (lv_at hl 1 rfl) ?_
      refine lv_iadd hx hb dX9_put_33 ?_
      refine lv_i2l hx hb dX9_put_34 rfl ?_
      obtain ⟨z7, hc8, h⟩ := bnd_some h
      refine gx_cS (σ' := (mkS σ [] [] [(56, (σ.2.2.1 56)), (57, (σ.2.2.1 57))] [])) (r := (some (.int z7))) (rest := []) (As := [.long (x2.toInt64), .long (x1.toInt64), .long ((((σ.1 3208) - (1 : Int32)) + x1).toInt64)]) hS9 (c_M_in l g (mkS σ [] [] [(56, (σ.2.2.1 56)), (57, (σ.2.2.1 57))] []) (x2.toInt64) (x1.toInt64) ((((σ.1 3208) - (1 : Int32)) + x1).toInt64) z7 hc8) rfl (va_cwS 3 hts (gz_S mw_5_41 mw_5_42 mw_1_11 mw_5_43) rfl rfl rfl hdS_X9_in ⟨Nat.le_of_ble_eq_true rfl, Nat.le_of_ble_eq_true rfl⟩) hK hG rfl hl.1 rfl (Nat.le_of_ble_eq_true rfl) dX9_put_35 (fun H locs hG => ?_)
      refine W.eq (g2 := F0 m 38 ls [.int z7]) rfl ?_
      refine lv_if_ne (tgt := 43) hx hb dX9_put_38 (by decide) (fun c9 => ?_) (fun c9 => ?_)
      · have h := ite_f c9 h
        refine lv_iload_n hx hb dX9_put_43 rfl (lv_at hl 1 rfl) ?_
        refine lv_if_ne (tgt := 57) hx hb dX9_put_44 (by decide) (fun c10 => ?_) (fun c10 => ?_)
        · have h := ite_f c10 h
          refine lv_aload_n hx hb dX9_put_57 rfl (lv_at hl 0 rfl) ?_
          refine gx_get (v := .ref (g.2.1 57)) (C := RX9) (T := TX9) (N := 44) hx hb hts mc_X9 hown hK hG (ga_50 g _) rfl 10 (by decide) hw2 rfl rfl dX9_put_58 ?_
          refine lv_iload_n hx hb dX9_put_61 rfl (lv_at hl 2 rfl) ?_
          refine lv_iload_n hx hb dX9_put_62 rfl (lv_at hl 3 rfl) ?_
          obtain ⟨hg11, h⟩ := gd_some h
          refine gx_iast (σ' := (mkS σ [] [] [(56, (σ.2.2.1 56)), (57, (upd (σ.2.2.1 57) (x2.toNatClampNeg) x3))] [])) (f := (σ.2.2.1 57)) hx hb hK hG (ga_57 g _) hg11 ((gs_57 g _ _).trans (congrArg (g_cells g) (mk_c 1 rfl rfl))) dX9_put_63 (fun H locs hG => ?_)
          exact n64 (σ.2.2.1 56) (upd (σ.2.2.1 57) (x2.toNatClampNeg) x3) _ _ _ (lv_sub hl [] rfl) hG h
        · have h := ite_t c10 h
          refine lv_aload_n hx hb dX9_put_47 rfl (lv_at hl 0 rfl) ?_
          refine gx_get (v := .ref (g.2.1 56)) (C := RX9) (T := TX9) (N := 44) hx hb hts mc_X9 hown hK hG (ga_50 g _) rfl 9 (by decide) hw3 rfl rfl dX9_put_48 ?_
          refine lv_iload_n hx hb dX9_put_51 rfl (lv_at hl 2 rfl) ?_
          refine lv_iload_n hx hb dX9_put_52 rfl (lv_at hl 3 rfl) ?_
          obtain ⟨hg12, h⟩ := gd_some h
          refine gx_iast (σ' := (mkS σ [] [] [(56, (upd (σ.2.2.1 56) (x2.toNatClampNeg) x3)), (57, (σ.2.2.1 57))] [])) (f := (σ.2.2.1 56)) hx hb hK hG (ga_56 g _) hg12 ((gs_56 g _ _).trans (congrArg (g_cells g) (mk_c 0 rfl rfl))) dX9_put_53 (fun H locs hG => ?_)
          refine lv_goto (tgt := 64) hx hb dX9_put_54 (by decide) ?_
          exact n64 (upd (σ.2.2.1 56) (x2.toNatClampNeg) x3) (σ.2.2.1 57) _ _ _ (lv_sub hl [] rfl) hG h
      · have h := ite_t c9 h
        exact n41 (σ.2.2.1 56) (σ.2.2.1 57) _ _ _ (lv_sub hl [] rfl) hG h

set_option maxHeartbeats 4000000 in
set_option maxRecDepth 100000 in
theorem c_M_road (l : Launch) (g : GC) (σ : St) (x1 : Int32) (x2 : Int32) (x3 : Int32) (r : Int32) (w_areKindsFound : Int32) (w_isMeasured : Int32) (w_road : Nat → Int32) (h : M_road x1 x2 x3 (σ.1 3238) (σ.1 3212) (σ.1 3203) (σ.2.2.1 54) = some (r, w_areKindsFound, w_isMeasured, w_road)) : Cn l g yX9_road (Cond.code yX9_road cX9_road 4 (some .int) :: wG) 2 46 [.ref (g.2.1 50), .int x1, .int x2, .int x3] σ (some (.int r)) (mkS σ [(3238, w_areKindsFound), (3212, w_isMeasured)] [] [(54, w_road)] []) := by
  unfold Cn
  refine Met.ofW (cc := cX9_road) (maxL := 4) (ret := (some .int)) (by decide) rfl ?_
  intro p e s m args below meth c s₁ B hml hv
  obtain ⟨hargs, hP0, hK⟩ := hv
  have hx := B.exec
  have hb := B.bytes
  have hr := B.returns
  have hts : ∀ w ∈ wG, w.before args s = true := fun w h => atoms_spec (ws := (Cond.code yX9_road cX9_road 4 (some .int) :: wG)) B.pre w (List.mem_cons_of_mem _ h)
  have hown : s.vm.findClass RX9 = some m.cls := findClass_of_methodNamed B.named
  have hlocks := B.notSynchronized
  have hS9 : CallFix p m c cX9_road 4 s args wG RX9 := ⟨hx, hb, hml, hown, hts⟩
  have hf9 : entryFrame m args 4 = _ := (congrArg (fun a => entryFrame m a 4) hargs).trans (lg_entry_eq m [.ref (g.2.1 50), .int x1, .int x2, .int x3] 4)
  show Wg p l e 2 46 s m args below meth c g (some (.int r)) (mkS σ [(3238, w_areKindsFound), (3212, w_isMeasured)] [] [(54, w_road)] []) s.heap [] (entryFrame m args 4)
  rw [hf9]
  have hl := lv_entry ([.ref (g.2.1 50), .int x1, .int x2, .int x3]) (n := 4) (Nat.le_of_ble_eq_true rfl)
  generalize (lg_sl ([.ref (g.2.1 50), .int x1, .int x2, .int x3]) ++ List.replicate (4 - (lg_sl ([.ref (g.2.1 50), .int x1, .int x2, .int x3])).length) Slot.unset).toArray = ls at hl ⊢
  have hl : lv_has ls 4 [(0, .ref (g.2.1 50)), (1, .int x1), (2, .int x2), (3, .int x3)] := hl
  have hG : GW g s σ s.heap [] := ⟨hP0, va_S.rf⟩
  have hG : GW g s (mkS σ [(3238, (σ.1 3238)), (3212, (σ.1 3212))] [] [(54, (σ.2.2.1 54))] []) s.heap [] := GW_self [3238, 3212] [] [54] [] hG
  unfold M_road at h
  have n21 : ∀ (v_areKindsFound : Int32) (v_isMeasured : Int32) (v_road : Nat → Int32) (H : Heap) (locs : List Loc) (ls : Array Slot), lv_has ls 4 [] → GW g s (mkS σ [(3238, v_areKindsFound), (3212, v_isMeasured)] [] [(54, v_road)] []) H locs → M_road_n21 v_areKindsFound v_isMeasured v_road = some (r, w_areKindsFound, w_isMeasured, w_road) → Wg p l e 2 46 s m args below meth c g (some (.int r)) (mkS σ [(3238, w_areKindsFound), (3212, w_isMeasured)] [] [(54, w_road)] []) H locs (F0 m 21 ls []) := by
    intro v_areKindsFound v_isMeasured v_road H locs ls hl hG h
    unfold M_road_n21 at h
    refine lv_iconst (v := (-1 : Int32)) hx hb dX9_road_21 (by decide) ?_
    cases h
    exact gx_iret hx hb hr hlocks hG dX9_road_22
  have n38 : ∀ (t0 : Int32) (v_areKindsFound : Int32) (v_isMeasured : Int32) (v_road : Nat → Int32) (H : Heap) (locs : List Loc) (ls : Array Slot), lv_has ls 4 [] → GW g s (mkS σ [(3238, v_areKindsFound), (3212, v_isMeasured)] [] [(54, v_road)] []) H locs → M_road_n38 t0 v_areKindsFound v_isMeasured v_road = some (r, w_areKindsFound, w_isMeasured, w_road) → Wg p l e 2 46 s m args below meth c g (some (.int r)) (mkS σ [(3238, w_areKindsFound), (3212, w_isMeasured)] [] [(54, w_road)] []) H locs (F0 m 38 ls [.int t0]) := by
    intro t0 v_areKindsFound v_isMeasured v_road H locs ls hl hG h
    unfold M_road_n38 at h
    cases h
    exact gx_iret hx hb hr hlocks hG dX9_road_38
  refine lv_aload_n hx hb dX9_road_0 rfl (lv_at hl 0 rfl) ?_
  refine lv_iload_n hx hb dX9_road_1 rfl (lv_at hl 1 rfl) ?_
  obtain ⟨z1, hc2, h⟩ := bnd_some h
  refine gx_cV (σ' := (mkS σ [(3238, (σ.1 3238)), (3212, (σ.1 3212))] [] [(54, (σ.2.2.1 54))] [])) (r := (some (.int z1))) (rest := []) (As := [.int x1]) hS9 (c_M_isPost l g (mkS σ [(3238, (σ.1 3238)), (3212, (σ.1 3212))] [] [(54, (σ.2.2.1 54))] []) x1 z1 hc2) rfl (cwV 1 hts (gz_V mw_5_66 mw_5_68 ms_3_5 mw_1_11 mw_5_69) rfl rfl rfl hdV_X9_isPost ⟨Nat.le_of_ble_eq_true rfl, Nat.le_of_ble_eq_true rfl⟩) hK hG (ga_50 g _) rfl rfl rfl hl.1 rfl (Nat.le_of_ble_eq_true rfl) dX9_road_2 (fun H locs hG => ?_)
  refine W.eq (g2 := F0 m 5 ls [.int z1]) rfl ?_
  refine lv_if_eq (tgt := 21) hx hb dX9_road_5 (by decide) (fun c3 => ?_) (fun c3 => ?_)
  · have h := ite_t c3 h
    exact n21 (σ.1 3238) (σ.1 3212) (σ.2.2.1 54) _ _ _ (lv_sub hl [] rfl) hG h
  · have h := ite_f c3 h
    refine lv_aload_n hx hb dX9_road_8 rfl (lv_at hl 0 rfl) ?_
    refine lv_iload_n hx hb dX9_road_9 rfl (lv_at hl 2 rfl) ?_
    obtain ⟨z4, hc5, h⟩ := bnd_some h
    refine gx_cV (σ' := (mkS σ [(3238, (σ.1 3238)), (3212, (σ.1 3212))] [] [(54, (σ.2.2.1 54))] [])) (r := (some (.int z4))) (rest := []) (As := [.int x2]) hS9 (c_M_isPost l g (mkS σ [(3238, (σ.1 3238)), (3212, (σ.1 3212))] [] [(54, (σ.2.2.1 54))] []) x2 z4 hc5) rfl (cwV 1 hts (gz_V mw_5_66 mw_5_68 ms_3_5 mw_1_11 mw_5_69) rfl rfl rfl hdV_X9_isPost ⟨Nat.le_of_ble_eq_true rfl, Nat.le_of_ble_eq_true rfl⟩) hK hG (ga_50 g _) rfl rfl rfl hl.1 rfl (Nat.le_of_ble_eq_true rfl) dX9_road_10 (fun H locs hG => ?_)
    refine W.eq (g2 := F0 m 13 ls [.int z4]) rfl ?_
    refine lv_if_eq (tgt := 21) hx hb dX9_road_13 (by decide) (fun c6 => ?_) (fun c6 => ?_)
    · have h := ite_t c6 h
      exact n21 (σ.1 3238) (σ.1 3212) (σ.2.2.1 54) _ _ _ (lv_sub hl [] rfl) hG h
    · have h := ite_f c6 h
      refine lv_iload_n hx hb dX9_road_16 rfl (lv_at hl 1 rfl) ?_
      refine lv_iload_n hx hb dX9_road_17 rfl (lv_at hl 2 rfl) ?_
      refine lv_icmp_ne (tgt := 23) hx hb dX9_road_18 (by decide) (fun c7 => ?_) (fun c7 => ?_)
      · have h := ite_f c7 h
        refine lv_aload_n hx hb dX9_road_23 rfl (lv_at hl 0 rfl) ?_
        refine lv_iload_n hx hb dX9_road_24 rfl (lv_at hl 1 rfl) ?_
        refine lv_iload_n hx hb dX9_road_25 rfl (lv_at hl 2 rfl) ?_
        refine lv_iload_n hx hb dX9_road_26 rfl (lv_at hl 3 rfl) ?_
        obtain ⟨z8, hc9, h⟩ := bnd_some h
        refine gx_cV (σ' := (mkS σ [(3238, z8.2.1), (3212, z8.2.2.1)] [] [(54, z8.2.2.2)] [])) (r := (some (.int z8.1))) (rest := []) (As := [.int x1, .int x2, .int x3]) hS9 (c_M_lay l g (mkS σ [(3238, (σ.1 3238)), (3212, (σ.1 3212))] [] [(54, (σ.2.2.1 54))] []) x1 x2 x3 z8.1 z8.2.1 z8.2.2.1 z8.2.2.2 hc9) (mk_mk rfl rfl rfl rfl) (cwV 3 hts (gz_V mw_5_70 mw_5_72 ms_3_6 mw_1_11 mw_5_73) rfl rfl rfl hdV_X9_lay ⟨Nat.le_of_ble_eq_true rfl, Nat.le_of_ble_eq_true rfl⟩) hK hG (ga_50 g _) rfl rfl rfl hl.1 rfl (Nat.le_of_ble_eq_true rfl) dX9_road_27 (fun H locs hG => ?_)
        refine W.eq (g2 := F0 m 30 ls [.int z8.1]) rfl ?_
        refine lv_if_eq (tgt := 37) hx hb dX9_road_30 (by decide) (fun c10 => ?_) (fun c10 => ?_)
        · have h := ite_t c10 h
          refine lv_iconst (v := (0 : Int32)) hx hb dX9_road_37 (by decide) ?_
          exact n38 (0 : Int32) z8.2.1 z8.2.2.1 z8.2.2.2 _ _ _ (lv_sub hl [] rfl) hG h
        · have h := ite_f c10 h
          refine lv_iconst (v := (1 : Int32)) hx hb dX9_road_33 (by decide) ?_
          refine lv_goto (tgt := 38) hx hb dX9_road_34 (by decide) ?_
          exact n38 (1 : Int32) z8.2.1 z8.2.2.1 z8.2.2.2 _ _ _ (lv_sub hl [] rfl) hG h
      · have h := ite_t c7 h
        exact n21 (σ.1 3238) (σ.1 3212) (σ.2.2.1 54) _ _ _ (lv_sub hl [] rfl) hG h

set_option maxHeartbeats 4000000 in
set_option maxRecDepth 100000 in
theorem c_M_root (l : Launch) (g : GC) (σ : St) (x1 : Int32) (x2 : Int32) (r : Int32) (w_all : Int64) (w_sizes : Nat → Int64) (w_third : Nat → Int64) (w_u : Nat → Int64) (h : M_root x1 x2 (σ.1 3208) (σ.2.1 3224) (σ.2.2.1 56) (σ.2.2.1 57) (σ.2.2.2 65) (σ.2.2.2 66) (σ.2.2.2 67) = some (r, w_all, w_sizes, w_third, w_u)) : Cn l g yX9_root (Cond.code yX9_root cX9_root 5 (some .int) :: wG) 3 69 [.ref (g.2.1 50), .int x1, .int x2] σ (some (.int r)) (mkS σ [] [(3224, w_all)] [] [(65, w_sizes), (66, w_third), (67, w_u)]) := by
  unfold Cn
  refine Met.ofW (cc := cX9_root) (maxL := 5) (ret := (some .int)) (by decide) rfl ?_
  intro p e s m args below meth c s₁ B hml hv
  obtain ⟨hargs, hP0, hK⟩ := hv
  have hx := B.exec
  have hb := B.bytes
  have hr := B.returns
  have hts : ∀ w ∈ wG, w.before args s = true := fun w h => atoms_spec (ws := (Cond.code yX9_root cX9_root 5 (some .int) :: wG)) B.pre w (List.mem_cons_of_mem _ h)
  have hown : s.vm.findClass RX9 = some m.cls := findClass_of_methodNamed B.named
  have hlocks := B.notSynchronized
  have hS9 : CallFix p m c cX9_root 5 s args wG RX9 := ⟨hx, hb, hml, hown, hts⟩
  have hw0 := hts _ mw_4_148
  have hf9 : entryFrame m args 5 = _ := (congrArg (fun a => entryFrame m a 5) hargs).trans (lg_entry_eq m [.ref (g.2.1 50), .int x1, .int x2] 5)
  show Wg p l e 3 69 s m args below meth c g (some (.int r)) (mkS σ [] [(3224, w_all)] [] [(65, w_sizes), (66, w_third), (67, w_u)]) s.heap [] (entryFrame m args 5)
  rw [hf9]
  have hl := lv_entry ([.ref (g.2.1 50), .int x1, .int x2]) (n := 5) (Nat.le_of_ble_eq_true rfl)
  generalize (lg_sl ([.ref (g.2.1 50), .int x1, .int x2]) ++ List.replicate (5 - (lg_sl ([.ref (g.2.1 50), .int x1, .int x2])).length) Slot.unset).toArray = ls at hl ⊢
  have hl : lv_has ls 5 [(0, .ref (g.2.1 50)), (1, .int x1), (2, .int x2)] := hl
  have hG : GW g s σ s.heap [] := ⟨hP0, va_S.rf⟩
  have hG : GW g s (mkS σ [] [(3224, (σ.2.1 3224))] [] [(65, (σ.2.2.2 65)), (66, (σ.2.2.2 66)), (67, (σ.2.2.2 67))]) s.heap [] := GW_self [] [3224] [] [65, 66, 67] hG
  unfold M_root at h
  have n73 : ∀ (t0 : Int32) (v_all : Int64) (v_sizes : Nat → Int64) (v_third : Nat → Int64) (v_u : Nat → Int64) (H : Heap) (locs : List Loc) (ls : Array Slot), lv_has ls 5 [] → GW g s (mkS σ [] [(3224, v_all)] [] [(65, v_sizes), (66, v_third), (67, v_u)]) H locs → M_root_n73 t0 v_all v_sizes v_third v_u = some (r, w_all, w_sizes, w_third, w_u) → Wg p l e 3 69 s m args below meth c g (some (.int r)) (mkS σ [] [(3224, w_all)] [] [(65, w_sizes), (66, w_third), (67, w_u)]) H locs (F0 m 73 ls [.int t0]) := by
    intro t0 v_all v_sizes v_third v_u H locs ls hl hG h
    unfold M_root_n73 at h
    cases h
    exact gx_iret hx hb hr hlocks hG dX9_root_73
  have n60 : ∀ (x2 : Int32) (x4 : Int32) (v_all : Int64) (v_sizes : Nat → Int64) (v_third : Nat → Int64) (v_u : Nat → Int64) (H : Heap) (locs : List Loc) (ls : Array Slot), lv_has ls 5 [(0, .ref (g.2.1 50)), (2, .int x2), (4, .int x4)] → GW g s (mkS σ [] [(3224, v_all)] [] [(65, v_sizes), (66, v_third), (67, v_u)]) H locs → M_root_n60 (σ.1 3208) (σ.2.2.1 56) x2 x4 v_all v_sizes v_third v_u = some (r, w_all, w_sizes, w_third, w_u) → Wg p l e 3 69 s m args below meth c g (some (.int r)) (mkS σ [] [(3224, w_all)] [] [(65, w_sizes), (66, w_third), (67, w_u)]) H locs (F0 m 60 ls []) := by
    intro x2 x4 v_all v_sizes v_third v_u H locs ls hl hG h
    unfold M_root_n60 at h
    refine lv_iload_n hx hb dX9_root_60 rfl (lv_at hl 1 rfl) ?_
    refine lv_if_ne (tgt := 69) hx hb dX9_root_61 (by decide) (fun c1 => ?_) (fun c1 => ?_)
    · have h := ite_f c1 h
      refine lv_aload_n hx hb dX9_root_69 rfl (lv_at hl 0 rfl) ?_
      obtain ⟨z2, hc3, h⟩ := bnd_some h
      refine gx_cV (σ' := (mkS σ [] [(3224, v_all)] [] [(65, v_sizes), (66, v_third), (67, v_u)])) (r := (some (.int z2))) (rest := []) (As := []) hS9 (c_M_times l g (mkS σ [] [(3224, v_all)] [] [(65, v_sizes), (66, v_third), (67, v_u)]) z2 hc3) rfl (cwV 0 hts (gz_V mw_6_1 mw_6_3 ms_4_15 mw_1_11 mw_6_4) rfl rfl rfl hdV_X9_times ⟨Nat.le_of_ble_eq_true rfl, Nat.le_of_ble_eq_true rfl⟩) hK hG (ga_50 g _) rfl rfl rfl hl.1 rfl (Nat.le_of_ble_eq_true rfl) dX9_root_70 (fun H locs hG => ?_)
      refine W.eq (g2 := F0 m 73 ls [.int z2]) rfl ?_
      exact n73 z2 v_all v_sizes v_third v_u _ _ _ (lv_sub hl [] rfl) hG h
    · have h := ite_t c1 h
      refine lv_iload hx hb dX9_root_64 (lv_at hl 2 rfl) ?_
      refine lv_goto (tgt := 73) hx hb dX9_root_66 (by decide) ?_
      exact n73 x4 v_all v_sizes v_third v_u _ _ _ (lv_sub hl [] rfl) hG h
  have n77 : ∀ (k35 : Int32 → Int32 → Int32 → Int64 → (Nat → Int64) → (Nat → Int64) → (Nat → Int64) → Option (Int32 × Int64 × (Nat → Int64) × (Nat → Int64) × (Nat → Int64))) (hk35 : ∀ (x2 : Int32) (x3 : Int32) (x4 : Int32) (v_all : Int64) (v_sizes : Nat → Int64) (v_third : Nat → Int64) (v_u : Nat → Int64) (H : Heap) (locs : List Loc) (ls : Array Slot), lv_has ls 5 [(0, .ref (g.2.1 50)), (2, .int x2), (3, .int x3), (4, .int x4)] → GW g s (mkS σ [] [(3224, v_all)] [] [(65, v_sizes), (66, v_third), (67, v_u)]) H locs → k35 x2 x3 x4 v_all v_sizes v_third v_u = some (r, w_all, w_sizes, w_third, w_u) → Wg p l e 3 69 s m args below meth c g (some (.int r)) (mkS σ [] [(3224, w_all)] [] [(65, w_sizes), (66, w_third), (67, w_u)]) H locs (F0 m 35 ls [])) (x2 : Int32) (x3 : Int32) (x4 : Int32) (v_all : Int64) (v_sizes : Nat → Int64) (v_third : Nat → Int64) (v_u : Nat → Int64) (H : Heap) (locs : List Loc) (ls : Array Slot), lv_has ls 5 [(0, .ref (g.2.1 50)), (2, .int x2), (3, .int x3), (4, .int x4)] → GW g s (mkS σ [] [(3224, v_all)] [] [(65, v_sizes), (66, v_third), (67, v_u)]) H locs → M_root_n77 k35 x2 x3 x4 v_all v_sizes v_third v_u = some (r, w_all, w_sizes, w_third, w_u) → Wg p l e 3 69 s m args below meth c g (some (.int r)) (mkS σ [] [(3224, w_all)] [] [(65, w_sizes), (66, w_third), (67, w_u)]) H locs (F0 m 77 ls []) := by
    intro k35 hk35 x2 x3 x4 v_all v_sizes v_third v_u H locs ls hl hG h
    unfold M_root_n77 at h
    refine lv_iinc (v := (x4 + (-1 : Int32))) (lv' := [(4, .int (x4 + (-1 : Int32))), (0, .ref (g.2.1 50)), (2, .int x2), (3, .int x3)]) hx hb dX9_root_77 hl (k := 3) rfl (congrArg (fun z => x4 + z) (by decide)) (Nat.le_of_ble_eq_true rfl) rfl (fun ls hl => ?_)
    refine lv_goto (tgt := 35) hx hb dX9_root_80 (by decide) ?_
    exact hk35 x2 x3 (x4 + (-1 : Int32)) v_all v_sizes v_third v_u _ _ _ (lv_sub hl [1, 2, 3, 0] rfl) hG h
  have n83 : ∀ (v_all : Int64) (v_sizes : Nat → Int64) (v_third : Nat → Int64) (v_u : Nat → Int64) (H : Heap) (locs : List Loc) (ls : Array Slot), lv_has ls 5 [] → GW g s (mkS σ [] [(3224, v_all)] [] [(65, v_sizes), (66, v_third), (67, v_u)]) H locs → M_root_n83 v_all v_sizes v_third v_u = some (r, w_all, w_sizes, w_third, w_u) → Wg p l e 3 69 s m args below meth c g (some (.int r)) (mkS σ [] [(3224, w_all)] [] [(65, w_sizes), (66, w_third), (67, w_u)]) H locs (F0 m 83 ls []) := by
    intro v_all v_sizes v_third v_u H locs ls hl hG h
    unfold M_root_n83 at h
    refine lv_sipush (v := (-1002 : Int32)) hx hb dX9_root_83 (by decide) ?_
    cases h
    exact gx_iret hx hb hr hlocks hG dX9_root_86
  have n35 : ∀ (k35 : Int32 → Int32 → Int32 → Int64 → (Nat → Int64) → (Nat → Int64) → (Nat → Int64) → Option (Int32 × Int64 × (Nat → Int64) × (Nat → Int64) × (Nat → Int64))) (hk35 : ∀ (x2 : Int32) (x3 : Int32) (x4 : Int32) (v_all : Int64) (v_sizes : Nat → Int64) (v_third : Nat → Int64) (v_u : Nat → Int64) (H : Heap) (locs : List Loc) (ls : Array Slot), lv_has ls 5 [(0, .ref (g.2.1 50)), (2, .int x2), (3, .int x3), (4, .int x4)] → GW g s (mkS σ [] [(3224, v_all)] [] [(65, v_sizes), (66, v_third), (67, v_u)]) H locs → k35 x2 x3 x4 v_all v_sizes v_third v_u = some (r, w_all, w_sizes, w_third, w_u) → Wg p l e 3 69 s m args below meth c g (some (.int r)) (mkS σ [] [(3224, w_all)] [] [(65, w_sizes), (66, w_third), (67, w_u)]) H locs (F0 m 35 ls [])) (x2 : Int32) (x3 : Int32) (x4 : Int32) (v_all : Int64) (v_sizes : Nat → Int64) (v_third : Nat → Int64) (v_u : Nat → Int64) (H : Heap) (locs : List Loc) (ls : Array Slot), lv_has ls 5 [(0, .ref (g.2.1 50)), (2, .int x2), (3, .int x3), (4, .int x4)] → GW g s (mkS σ [] [(3224, v_all)] [] [(65, v_sizes), (66, v_third), (67, v_u)]) H locs → M_root_n35 k35 (σ.1 3208) (σ.2.2.1 56) (σ.2.2.1 57) x2 x3 x4 v_all v_sizes v_third v_u = some (r, w_all, w_sizes, w_third, w_u) → Wg p l e 3 69 s m args below meth c g (some (.int r)) (mkS σ [] [(3224, w_all)] [] [(65, w_sizes), (66, w_third), (67, w_u)]) H locs (F0 m 35 ls []) := by
    intro k35 hk35 x2 x3 x4 v_all v_sizes v_third v_u H locs ls hl hG h
    unfold M_root_n35 at h
    refine lv_iload hx hb dX9_root_35 (lv_at hl 3 rfl) ?_
    refine lv_aload_n hx hb dX9_root_37 rfl (lv_at hl 0 rfl) ?_
    refine gx_get (v := .ref (g.2.1 56)) (C := RX9) (T := TX9) (N := 44) hx hb hts mc_X9 hown hK hG (ga_50 g _) rfl 9 (by decide) hw0 rfl rfl dX9_root_38 ?_
    refine lv_iconst (v := (0 : Int32)) hx hb dX9_root_41 (by decide) ?_
    refine gx_iald (f := (σ.2.2.1 56)) hx hb hK hG (ga_56 g _) (by decide) dX9_root_42 ?_
    refine lv_ineg hx hb dX9_root_43 ?_
    refine lv_icmp_lt (tgt := 83) hx hb dX9_root_44 (by decide) (fun c4 => ?_) (fun c4 => ?_)
    · have h := ite_t c4 h
      exact n83 v_all v_sizes v_third v_u _ _ _ (lv_sub hl [] rfl) hG h
    · have h := ite_f c4 h
      refine lv_aload_n hx hb dX9_root_47 rfl (lv_at hl 0 rfl) ?_
      refine lv_iload hx hb dX9_root_48 (lv_at hl 3 rfl) ?_
      obtain ⟨z5, hc6, h⟩ := bnd_some h
      refine gx_cV (σ' := (mkS σ [] [(3224, v_all)] [] [(65, v_sizes), (66, v_third), (67, z5.2)])) (r := (some (.int z5.1))) (rest := []) (As := [.int x4]) hS9 (c_M_isRoot l g (mkS σ [] [(3224, v_all)] [] [(65, v_sizes), (66, v_third), (67, v_u)]) x4 z5.1 z5.2 hc6) (mk_mk rfl rfl rfl rfl) (cwV 1 hts (gz_V mw_5_237 mw_5_239 ms_4_14 mw_1_11 mw_6_0) rfl rfl rfl hdV_X9_isRoot ⟨Nat.le_of_ble_eq_true rfl, Nat.le_of_ble_eq_true rfl⟩) hK hG (ga_50 g _) rfl rfl rfl hl.1 rfl (Nat.le_of_ble_eq_true rfl) dX9_root_50 (fun H locs hG => ?_)
      refine W.eq (g2 := F0 m 53 ls [.int z5.1]) rfl ?_
      refine lv_if_eq (tgt := 77) hx hb dX9_root_53 (by decide) (fun c7 => ?_) (fun c7 => ?_)
      · have h := ite_t c7 h
        exact n77 k35 hk35 x2 x3 x4 v_all v_sizes v_third z5.2 _ _ _ (lv_sub hl [0, 1, 2, 3] rfl) hG h
      · have h := ite_f c7 h
        refine lv_iload_n hx hb dX9_root_56 rfl (lv_at hl 2 rfl) ?_
        refine lv_if_ne (tgt := 74) hx hb dX9_root_57 (by decide) (fun c8 => ?_) (fun c8 => ?_)
        · have h := ite_f c8 h
          refine lv_iinc (v := (x3 + (-1 : Int32))) (lv' := [(3, .int (x3 + (-1 : Int32))), (0, .ref (g.2.1 50)), (2, .int x2), (4, .int x4)]) hx hb dX9_root_74 hl (k := 2) rfl (congrArg (fun z => x3 + z) (by decide)) (Nat.le_of_ble_eq_true rfl) rfl (fun ls hl => ?_)
          exact n77 k35 hk35 x2 (x3 + (-1 : Int32)) x4 v_all v_sizes v_third z5.2 _ _ _ (lv_sub hl [1, 2, 0, 3] rfl) hG h
        · have h := ite_t c8 h
          exact n60 x2 x4 v_all v_sizes v_third z5.2 _ _ _ (lv_sub hl [0, 1, 3] rfl) hG h
  have l35 : ∀  (F : Nat) (x2 : Int32) (x3 : Int32) (x4 : Int32) (v_all : Int64) (v_sizes : Nat → Int64) (v_third : Nat → Int64) (v_u : Nat → Int64) (H : Heap) (locs : List Loc) (ls : Array Slot), lv_has ls 5 [(0, .ref (g.2.1 50)), (2, .int x2), (3, .int x3), (4, .int x4)] → GW g s (mkS σ [] [(3224, v_all)] [] [(65, v_sizes), (66, v_third), (67, v_u)]) H locs → M_root_l35 (σ.1 3208) (σ.2.2.1 56) (σ.2.2.1 57) F x2 x3 x4 v_all v_sizes v_third v_u = some (r, w_all, w_sizes, w_third, w_u) → Wg p l e 3 69 s m args below meth c g (some (.int r)) (mkS σ [] [(3224, w_all)] [] [(65, w_sizes), (66, w_third), (67, w_u)]) H locs (F0 m 35 ls []) := by
    intro F
    induction F with
    | zero => intro x2 x3 x4 v_all v_sizes v_third v_u H locs ls hl hG h; exact no_some h
    | succ F ih => intro x2 x3 x4 v_all v_sizes v_third v_u H locs ls hl hG h; exact n35 (fun x2 x3 x4 v_all v_sizes v_third v_u => M_root_l35 (σ.1 3208) (σ.2.2.1 56) (σ.2.2.1 57) F x2 x3 x4 v_all v_sizes v_third v_u) ih x2 x3 x4 v_all v_sizes v_third v_u H locs ls hl hG h
  refine lv_iload_n hx hb dX9_root_0 rfl (lv_at hl 2 rfl) ?_
  refine lv_i2l hx hb dX9_root_1 rfl ?_
  refine lv_lconst (v := (0 : Int64)) hx hb dX9_root_2 (by decide) ?_
  refine lv_lconst (v := (1 : Int64)) hx hb dX9_root_3 (by decide) ?_
  obtain ⟨z9, hc10, h⟩ := bnd_some h
  refine gx_cS (σ' := (mkS σ [] [(3224, (σ.2.1 3224))] [] [(65, (σ.2.2.2 65)), (66, (σ.2.2.2 66)), (67, (σ.2.2.2 67))])) (r := (some (.int z9))) (rest := []) (As := [.long (x2.toInt64), .long (0 : Int64), .long (1 : Int64)]) hS9 (c_M_in l g (mkS σ [] [(3224, (σ.2.1 3224))] [] [(65, (σ.2.2.2 65)), (66, (σ.2.2.2 66)), (67, (σ.2.2.2 67))]) (x2.toInt64) (0 : Int64) (1 : Int64) z9 hc10) rfl (va_cwS 3 hts (gz_S mw_5_41 mw_5_42 mw_1_11 mw_5_43) rfl rfl rfl hdS_X9_in ⟨Nat.le_of_ble_eq_true rfl, Nat.le_of_ble_eq_true rfl⟩) hK hG rfl hl.1 rfl (Nat.le_of_ble_eq_true rfl) dX9_root_4 (fun H locs hG => ?_)
  refine W.eq (g2 := F0 m 7 ls [.int z9]) rfl ?_
  refine lv_if_ne (tgt := 14) hx hb dX9_root_7 (by decide) (fun c11 => ?_) (fun c11 => ?_)
  · have h := ite_f c11 h
    refine lv_aload_n hx hb dX9_root_14 rfl (lv_at hl 0 rfl) ?_
    obtain ⟨z12, hc13, h⟩ := bnd_some h
    refine gx_cV (σ' := (mkS σ [] [(3224, z12.2.1)] [] [(65, z12.2.2.1), (66, z12.2.2.2), (67, (σ.2.2.2 67))])) (r := (some (.int z12.1))) (rest := []) (As := []) hS9 (c_M_laws l g (mkS σ [] [(3224, (σ.2.1 3224))] [] [(65, (σ.2.2.2 65)), (66, (σ.2.2.2 66)), (67, (σ.2.2.2 67))]) z12.1 z12.2.1 z12.2.2.1 z12.2.2.2 hc13) (mk_mk rfl rfl rfl rfl) (cwV 0 hts (gz_V mw_5_208 mw_5_210 ms_4_7 mw_1_11 mw_5_211) rfl rfl rfl hdV_X9_laws ⟨Nat.le_of_ble_eq_true rfl, Nat.le_of_ble_eq_true rfl⟩) hK hG (ga_50 g _) rfl rfl rfl hl.1 rfl (Nat.le_of_ble_eq_true rfl) dX9_root_15 (fun H locs hG => ?_)
    refine W.eq (g2 := F0 m 18 ls [.int z12.1]) rfl ?_
    refine lv_if_le (tgt := 25) hx hb dX9_root_18 (by decide) (fun c14 => ?_) (fun c14 => ?_)
    · have h := ite_t c14 h
      refine lv_iload_n hx hb dX9_root_25 rfl (lv_at hl 1 rfl) ?_
      refine lv_istore_n (lv' := [(3, .int x1), (0, .ref (g.2.1 50)), (1, .int x1), (2, .int x2)]) hx hb dX9_root_26 rfl hl (Nat.le_of_ble_eq_true rfl) rfl (fun ls hl => ?_)
      refine lv_aload_n hx hb dX9_root_27 rfl (lv_at hl 1 rfl) ?_
      refine gx_get (v := .ref (g.2.1 56)) (C := RX9) (T := TX9) (N := 44) hx hb hts mc_X9 hown hK hG (ga_50 g _) rfl 9 (by decide) hw0 rfl rfl dX9_root_28 ?_
      refine lv_iconst (v := (0 : Int32)) hx hb dX9_root_31 (by decide) ?_
      refine gx_iald (f := (σ.2.2.1 56)) hx hb hK hG (ga_56 g _) (by decide) dX9_root_32 ?_
      refine lv_istore (lv' := [(4, .int ((σ.2.2.1 56) ((0 : Int32).toNatClampNeg))), (3, .int x1), (0, .ref (g.2.1 50)), (1, .int x1), (2, .int x2)]) hx hb dX9_root_33 hl (Nat.le_of_ble_eq_true rfl) rfl (fun ls hl => ?_)
      exact l35 FUEL x2 x1 ((σ.2.2.1 56) ((0 : Int32).toNatClampNeg)) z12.2.1 z12.2.2.1 z12.2.2.2 (σ.2.2.2 67) _ _ _ (lv_sub hl [2, 4, 1, 0] rfl) hG h
    · have h := ite_f c14 h
      refine lv_sipush (v := (-1001 : Int32)) hx hb dX9_root_21 (by decide) ?_
      cases h
      exact gx_iret hx hb hr hlocks hG dX9_root_24
  · have h := ite_t c11 h
    refine lv_sipush (v := (-1000 : Int32)) hx hb dX9_root_10 (by decide) ?_
    cases h
    exact gx_iret hx hb hr hlocks hG dX9_root_13

set_option maxHeartbeats 4000000 in
set_option maxRecDepth 100000 in
theorem c_M_sheet (l : Launch) (g : GC) (σ : St) (x1 : Int32) (x2 : Int32) (x3 : Int32) (r : Int32) (w_cellOf : Nat → Int32) (w_sheetKind : Nat → Int32) (w_sheetSize : Nat → Int32) (h : M_sheet x1 x2 x3 (σ.2.2.1 53) (σ.2.2.1 51) (σ.2.2.1 52) = some (r, w_cellOf, w_sheetKind, w_sheetSize)) : Cn l g yX9_sheet (Cond.code yX9_sheet cX9_sheet 5 (some .int) :: wG) 2 45 [.ref (g.2.1 50), .int x1, .int x2, .int x3] σ (some (.int r)) (mkS σ [] [] [(53, w_cellOf), (51, w_sheetKind), (52, w_sheetSize)] []) := by
  unfold Cn
  refine Met.ofW (cc := cX9_sheet) (maxL := 5) (ret := (some .int)) (by decide) rfl ?_
  intro p e s m args below meth c s₁ B hml hv
  obtain ⟨hargs, hP0, hK⟩ := hv
  have hx := B.exec
  have hb := B.bytes
  have hr := B.returns
  have hts : ∀ w ∈ wG, w.before args s = true := fun w h => atoms_spec (ws := (Cond.code yX9_sheet cX9_sheet 5 (some .int) :: wG)) B.pre w (List.mem_cons_of_mem _ h)
  have hown : s.vm.findClass RX9 = some m.cls := findClass_of_methodNamed B.named
  have hlocks := B.notSynchronized
  have hS9 : CallFix p m c cX9_sheet 5 s args wG RX9 := ⟨hx, hb, hml, hown, hts⟩
  have hw0 := hts _ mw_4_141
  have hw1 := hts _ mw_5_44
  have hw2 := hts _ mw_4_139
  have hw3 := hts _ mw_4_140
  have hf9 : entryFrame m args 5 = _ := (congrArg (fun a => entryFrame m a 5) hargs).trans (lg_entry_eq m [.ref (g.2.1 50), .int x1, .int x2, .int x3] 5)
  show Wg p l e 2 45 s m args below meth c g (some (.int r)) (mkS σ [] [] [(53, w_cellOf), (51, w_sheetKind), (52, w_sheetSize)] []) s.heap [] (entryFrame m args 5)
  rw [hf9]
  have hl := lv_entry ([.ref (g.2.1 50), .int x1, .int x2, .int x3]) (n := 5) (Nat.le_of_ble_eq_true rfl)
  generalize (lg_sl ([.ref (g.2.1 50), .int x1, .int x2, .int x3]) ++ List.replicate (5 - (lg_sl ([.ref (g.2.1 50), .int x1, .int x2, .int x3])).length) Slot.unset).toArray = ls at hl ⊢
  have hl : lv_has ls 5 [(0, .ref (g.2.1 50)), (1, .int x1), (2, .int x2), (3, .int x3)] := hl
  have hG : GW g s σ s.heap [] := ⟨hP0, va_S.rf⟩
  have hG : GW g s (mkS σ [] [] [(53, (σ.2.2.1 53)), (51, (σ.2.2.1 51)), (52, (σ.2.2.1 52))] []) s.heap [] := GW_self [] [] [53, 51, 52] [] hG
  unfold M_sheet at h
  have n19 : ∀ (v_cellOf : Nat → Int32) (v_sheetKind : Nat → Int32) (v_sheetSize : Nat → Int32) (H : Heap) (locs : List Loc) (ls : Array Slot), lv_has ls 5 [] → GW g s (mkS σ [] [] [(53, v_cellOf), (51, v_sheetKind), (52, v_sheetSize)] []) H locs → M_sheet_n19 v_cellOf v_sheetKind v_sheetSize = some (r, w_cellOf, w_sheetKind, w_sheetSize) → Wg p l e 2 45 s m args below meth c g (some (.int r)) (mkS σ [] [] [(53, w_cellOf), (51, w_sheetKind), (52, w_sheetSize)] []) H locs (F0 m 19 ls []) := by
    intro v_cellOf v_sheetKind v_sheetSize H locs ls hl hG h
    unfold M_sheet_n19 at h
    refine lv_iconst (v := (-1 : Int32)) hx hb dX9_sheet_19 (by decide) ?_
    cases h
    exact gx_iret hx hb hr hlocks hG dX9_sheet_20
  have n78 : ∀ (v_cellOf : Nat → Int32) (v_sheetKind : Nat → Int32) (v_sheetSize : Nat → Int32) (H : Heap) (locs : List Loc) (ls : Array Slot), lv_has ls 5 [] → GW g s (mkS σ [] [] [(53, v_cellOf), (51, v_sheetKind), (52, v_sheetSize)] []) H locs → M_sheet_n78 v_cellOf v_sheetKind v_sheetSize = some (r, w_cellOf, w_sheetKind, w_sheetSize) → Wg p l e 2 45 s m args below meth c g (some (.int r)) (mkS σ [] [] [(53, w_cellOf), (51, w_sheetKind), (52, w_sheetSize)] []) H locs (F0 m 78 ls []) := by
    intro v_cellOf v_sheetKind v_sheetSize H locs ls hl hG h
    unfold M_sheet_n78 at h
    refine lv_iconst (v := (1 : Int32)) hx hb dX9_sheet_78 (by decide) ?_
    cases h
    exact gx_iret hx hb hr hlocks hG dX9_sheet_79
  have n53 : ∀ (k53 : Int32 → Int32 → Int32 → (Nat → Int32) → (Nat → Int32) → (Nat → Int32) → Option (Int32 × (Nat → Int32) × (Nat → Int32) × (Nat → Int32))) (hk53 : ∀ (x1 : Int32) (x3 : Int32) (x4 : Int32) (v_cellOf : Nat → Int32) (v_sheetKind : Nat → Int32) (v_sheetSize : Nat → Int32) (H : Heap) (locs : List Loc) (ls : Array Slot), lv_has ls 5 [(0, .ref (g.2.1 50)), (1, .int x1), (3, .int x3), (4, .int x4)] → GW g s (mkS σ [] [] [(53, v_cellOf), (51, v_sheetKind), (52, v_sheetSize)] []) H locs → k53 x1 x3 x4 v_cellOf v_sheetKind v_sheetSize = some (r, w_cellOf, w_sheetKind, w_sheetSize) → Wg p l e 2 45 s m args below meth c g (some (.int r)) (mkS σ [] [] [(53, w_cellOf), (51, w_sheetKind), (52, w_sheetSize)] []) H locs (F0 m 53 ls [])) (x1 : Int32) (x3 : Int32) (x4 : Int32) (v_cellOf : Nat → Int32) (v_sheetKind : Nat → Int32) (v_sheetSize : Nat → Int32) (H : Heap) (locs : List Loc) (ls : Array Slot), lv_has ls 5 [(0, .ref (g.2.1 50)), (1, .int x1), (3, .int x3), (4, .int x4)] → GW g s (mkS σ [] [] [(53, v_cellOf), (51, v_sheetKind), (52, v_sheetSize)] []) H locs → M_sheet_n53 k53 x1 x3 x4 v_cellOf v_sheetKind v_sheetSize = some (r, w_cellOf, w_sheetKind, w_sheetSize) → Wg p l e 2 45 s m args below meth c g (some (.int r)) (mkS σ [] [] [(53, w_cellOf), (51, w_sheetKind), (52, w_sheetSize)] []) H locs (F0 m 53 ls []) := by
    intro k53 hk53 x1 x3 x4 v_cellOf v_sheetKind v_sheetSize H locs ls hl hG h
    unfold M_sheet_n53 at h
    refine lv_iload hx hb dX9_sheet_53 (lv_at hl 3 rfl) ?_
    refine lv_iload_n hx hb dX9_sheet_55 rfl (lv_at hl 2 rfl) ?_
    refine lv_icmp_ge (tgt := 78) hx hb dX9_sheet_56 (by decide) (fun c1 => ?_) (fun c1 => ?_)
    · have h := ite_t c1 h
      exact n78 v_cellOf v_sheetKind v_sheetSize _ _ _ (lv_sub hl [] rfl) hG h
    · have h := ite_f c1 h
      refine lv_aload_n hx hb dX9_sheet_59 rfl (lv_at hl 0 rfl) ?_
      refine gx_get (v := .ref (g.2.1 53)) (C := RX9) (T := TX9) (N := 44) hx hb hts mc_X9 hown hK hG (ga_50 g _) rfl 2 (by decide) hw0 rfl rfl dX9_sheet_60 ?_
      refine lv_bipush (v := (60 : Int32)) hx hb dX9_sheet_63 (by decide) ?_
      refine lv_iload_n hx hb dX9_sheet_65 rfl (lv_at hl 1 rfl) ?_
      refine lv_imul hx hb dX9_sheet_66 ?_
      refine lv_iload hx hb dX9_sheet_67 (lv_at hl 3 rfl) ?_
      refine lv_iadd hx hb dX9_sheet_69 ?_
      refine lv_iconst (v := (0 : Int32)) hx hb dX9_sheet_70 (by decide) ?_
      obtain ⟨hg2, h⟩ := gd_some h
      refine gx_iast (σ' := (mkS σ [] [] [(53, (upd v_cellOf ((((60 : Int32) * x1) + x4).toNatClampNeg) (0 : Int32))), (51, v_sheetKind), (52, v_sheetSize)] [])) (f := v_cellOf) hx hb hK hG (ga_53 g _) hg2 ((gs_53 g _ _).trans (congrArg (g_cells g) (mk_c 0 rfl rfl))) dX9_sheet_71 (fun H locs hG => ?_)
      refine lv_iinc (v := (x4 + (1 : Int32))) (lv' := [(4, .int (x4 + (1 : Int32))), (0, .ref (g.2.1 50)), (1, .int x1), (3, .int x3)]) hx hb dX9_sheet_72 hl (k := 3) rfl (congrArg (fun z => x4 + z) (by decide)) (Nat.le_of_ble_eq_true rfl) rfl (fun ls hl => ?_)
      refine lv_goto (tgt := 53) hx hb dX9_sheet_75 (by decide) ?_
      exact hk53 x1 x3 (x4 + (1 : Int32)) (upd v_cellOf ((((60 : Int32) * x1) + x4).toNatClampNeg) (0 : Int32)) v_sheetKind v_sheetSize _ _ _ (lv_sub hl [1, 2, 3, 0] rfl) hG h
  have l53 : ∀  (F : Nat) (x1 : Int32) (x3 : Int32) (x4 : Int32) (v_cellOf : Nat → Int32) (v_sheetKind : Nat → Int32) (v_sheetSize : Nat → Int32) (H : Heap) (locs : List Loc) (ls : Array Slot), lv_has ls 5 [(0, .ref (g.2.1 50)), (1, .int x1), (3, .int x3), (4, .int x4)] → GW g s (mkS σ [] [] [(53, v_cellOf), (51, v_sheetKind), (52, v_sheetSize)] []) H locs → M_sheet_l53 F x1 x3 x4 v_cellOf v_sheetKind v_sheetSize = some (r, w_cellOf, w_sheetKind, w_sheetSize) → Wg p l e 2 45 s m args below meth c g (some (.int r)) (mkS σ [] [] [(53, w_cellOf), (51, w_sheetKind), (52, w_sheetSize)] []) H locs (F0 m 53 ls []) := by
    intro F
    induction F with
    | zero => intro x1 x3 x4 v_cellOf v_sheetKind v_sheetSize H locs ls hl hG h; exact no_some h
    | succ F ih => intro x1 x3 x4 v_cellOf v_sheetKind v_sheetSize H locs ls hl hG h; exact n53 (fun x1 x3 x4 v_cellOf v_sheetKind v_sheetSize => M_sheet_l53 F x1 x3 x4 v_cellOf v_sheetKind v_sheetSize) ih x1 x3 x4 v_cellOf v_sheetKind v_sheetSize H locs ls hl hG h
  refine lv_iload_n hx hb dX9_sheet_0 rfl (lv_at hl 1 rfl) ?_
  obtain ⟨z3, hc4, h⟩ := bnd_some h
  refine gx_cS (σ' := (mkS σ [] [] [(53, (σ.2.2.1 53)), (51, (σ.2.2.1 51)), (52, (σ.2.2.1 52))] [])) (r := (some (.int z3))) (rest := []) (As := [.int x1]) hS9 (c_M_isSheet l g (mkS σ [] [] [(53, (σ.2.2.1 53)), (51, (σ.2.2.1 51)), (52, (σ.2.2.1 52))] []) x1 z3 hc4) rfl (va_cwS 1 hts (gz_S mw_5_37 mw_5_38 mw_1_11 mw_5_39) rfl rfl rfl hdS_X9_isSheet ⟨Nat.le_of_ble_eq_true rfl, Nat.le_of_ble_eq_true rfl⟩) hK hG rfl hl.1 rfl (Nat.le_of_ble_eq_true rfl) dX9_sheet_1 (fun H locs hG => ?_)
  refine W.eq (g2 := F0 m 4 ls [.int z3]) rfl ?_
  refine lv_if_eq (tgt := 19) hx hb dX9_sheet_4 (by decide) (fun c5 => ?_) (fun c5 => ?_)
  · have h := ite_t c5 h
    exact n19 (σ.2.2.1 53) (σ.2.2.1 51) (σ.2.2.1 52) _ _ _ (lv_sub hl [] rfl) hG h
  · have h := ite_f c5 h
    refine lv_iload_n hx hb dX9_sheet_7 rfl (lv_at hl 2 rfl) ?_
    refine lv_i2l hx hb dX9_sheet_8 rfl ?_
    refine lv_lconst (v := (0 : Int64)) hx hb dX9_sheet_9 (by decide) ?_
    refine lv_ldc2 hx hb hown hw1 dX9_sheet_10 ?_
    obtain ⟨z6, hc7, h⟩ := bnd_some h
    refine gx_cS (σ' := (mkS σ [] [] [(53, (σ.2.2.1 53)), (51, (σ.2.2.1 51)), (52, (σ.2.2.1 52))] [])) (r := (some (.int z6))) (rest := []) (As := [.long (x2.toInt64), .long (0 : Int64), .long (2 : Int64)]) hS9 (c_M_in l g (mkS σ [] [] [(53, (σ.2.2.1 53)), (51, (σ.2.2.1 51)), (52, (σ.2.2.1 52))] []) (x2.toInt64) (0 : Int64) (2 : Int64) z6 hc7) rfl (va_cwS 3 hts (gz_S mw_5_41 mw_5_42 mw_1_11 mw_5_43) rfl rfl rfl hdS_X9_in ⟨Nat.le_of_ble_eq_true rfl, Nat.le_of_ble_eq_true rfl⟩) hK hG rfl hl.1 rfl (Nat.le_of_ble_eq_true rfl) dX9_sheet_13 (fun H locs hG => ?_)
    refine W.eq (g2 := F0 m 16 ls [.int z6]) rfl ?_
    refine lv_if_ne (tgt := 21) hx hb dX9_sheet_16 (by decide) (fun c8 => ?_) (fun c8 => ?_)
    · have h := ite_f c8 h
      refine lv_iload_n hx hb dX9_sheet_21 rfl (lv_at hl 3 rfl) ?_
      refine lv_if_ge (tgt := 28) hx hb dX9_sheet_22 (by decide) (fun c9 => ?_) (fun c9 => ?_)
      · have h := ite_t c9 h
        refine lv_iload_n hx hb dX9_sheet_28 rfl (lv_at hl 3 rfl) ?_
        refine lv_bipush (v := (60 : Int32)) hx hb dX9_sheet_29 (by decide) ?_
        refine lv_icmp_le (tgt := 36) hx hb dX9_sheet_31 (by decide) (fun c10 => ?_) (fun c10 => ?_)
        · have h := ite_t c10 h
          refine lv_aload_n hx hb dX9_sheet_36 rfl (lv_at hl 0 rfl) ?_
          refine gx_get (v := .ref (g.2.1 51)) (C := RX9) (T := TX9) (N := 44) hx hb hts mc_X9 hown hK hG (ga_50 g _) rfl 0 (by decide) hw2 rfl rfl dX9_sheet_37 ?_
          refine lv_iload_n hx hb dX9_sheet_40 rfl (lv_at hl 1 rfl) ?_
          refine lv_iload_n hx hb dX9_sheet_41 rfl (lv_at hl 2 rfl) ?_
          obtain ⟨hg11, h⟩ := gd_some h
          refine gx_iast (σ' := (mkS σ [] [] [(53, (σ.2.2.1 53)), (51, (upd (σ.2.2.1 51) (x1.toNatClampNeg) x2)), (52, (σ.2.2.1 52))] [])) (f := (σ.2.2.1 51)) hx hb hK hG (ga_51 g _) hg11 ((gs_51 g _ _).trans (congrArg (g_cells g) (mk_c 1 rfl rfl))) dX9_sheet_42 (fun H locs hG => ?_)
          refine lv_aload_n hx hb dX9_sheet_43 rfl (lv_at hl 0 rfl) ?_
          refine gx_get (v := .ref (g.2.1 52)) (C := RX9) (T := TX9) (N := 44) hx hb hts mc_X9 hown hK hG (ga_50 g _) rfl 1 (by decide) hw3 rfl rfl dX9_sheet_44 ?_
          refine lv_iload_n hx hb dX9_sheet_47 rfl (lv_at hl 1 rfl) ?_
          refine lv_iload_n hx hb dX9_sheet_48 rfl (lv_at hl 3 rfl) ?_
          refine gx_iast (σ' := (mkS σ [] [] [(53, (σ.2.2.1 53)), (51, (upd (σ.2.2.1 51) (x1.toNatClampNeg) x2)), (52, (upd (σ.2.2.1 52) (x1.toNatClampNeg) x3))] [])) (f := (σ.2.2.1 52)) hx hb hK hG (ga_52 g _) hg11 ((gs_52 g _ _).trans (congrArg (g_cells g) (mk_c 2 rfl rfl))) dX9_sheet_49 (fun H locs hG => ?_)
          refine lv_iconst (v := (0 : Int32)) hx hb dX9_sheet_50 (by decide) ?_
          refine lv_istore (lv' := [(4, .int (0 : Int32)), (0, .ref (g.2.1 50)), (1, .int x1), (2, .int x2), (3, .int x3)]) hx hb dX9_sheet_51 hl (Nat.le_of_ble_eq_true rfl) rfl (fun ls hl => ?_)
          exact l53 FUEL x1 x3 (0 : Int32) (σ.2.2.1 53) (upd (σ.2.2.1 51) (x1.toNatClampNeg) x2) (upd (σ.2.2.1 52) (x1.toNatClampNeg) x3) _ _ _ (lv_sub hl [1, 2, 4, 0] rfl) hG h
        · have h := ite_f c10 h
          refine lv_iconst (v := (-1 : Int32)) hx hb dX9_sheet_34 (by decide) ?_
          cases h
          exact gx_iret hx hb hr hlocks hG dX9_sheet_35
      · have h := ite_f c9 h
        refine lv_bipush (v := (-4 : Int32)) hx hb dX9_sheet_25 (by decide) ?_
        cases h
        exact gx_iret hx hb hr hlocks hG dX9_sheet_27
    · have h := ite_t c8 h
      exact n19 (σ.2.2.1 53) (σ.2.2.1 51) (σ.2.2.1 52) _ _ _ (lv_sub hl [] rfl) hG h

set_option maxHeartbeats 4000000 in
set_option maxRecDepth 100000 in
theorem c_M_atWay (l : Launch) (g : GC) (σ : St) (x1 : Int32) (x2 : Int32) (r : Int32) (h : M_atWay x1 x2 (σ.1 3203) (σ.2.2.1 59) = some r) : Cn l g yX9_atWay (Cond.code yX9_atWay cX9_atWay 5 (some .int) :: wG) 0 0 [.ref (g.2.1 50), .int x1, .int x2] σ (some (.int r)) σ := by
  unfold Cn
  refine Met.ofW (cc := cX9_atWay) (maxL := 5) (ret := (some .int)) (by decide) rfl ?_
  intro p e s m args below meth c s₁ B hml hv
  obtain ⟨hargs, hP0, hK⟩ := hv
  have hx := B.exec
  have hb := B.bytes
  have hr := B.returns
  have hts : ∀ w ∈ wG, w.before args s = true := fun w h => atoms_spec (ws := (Cond.code yX9_atWay cX9_atWay 5 (some .int) :: wG)) B.pre w (List.mem_cons_of_mem _ h)
  have hown : s.vm.findClass RX9 = some m.cls := findClass_of_methodNamed B.named
  have hlocks := B.notSynchronized
  have hw0 := hts _ mw_4_142
  have hw1 := hts _ mw_4_152
  have hf9 : entryFrame m args 5 = _ := (congrArg (fun a => entryFrame m a 5) hargs).trans (lg_entry_eq m [.ref (g.2.1 50), .int x1, .int x2] 5)
  show Wg p l e 0 0 s m args below meth c g (some (.int r)) σ s.heap [] (entryFrame m args 5)
  rw [hf9]
  have hl := lv_entry ([.ref (g.2.1 50), .int x1, .int x2]) (n := 5) (Nat.le_of_ble_eq_true rfl)
  generalize (lg_sl ([.ref (g.2.1 50), .int x1, .int x2]) ++ List.replicate (5 - (lg_sl ([.ref (g.2.1 50), .int x1, .int x2])).length) Slot.unset).toArray = ls at hl ⊢
  have hl : lv_has ls 5 [(0, .ref (g.2.1 50)), (1, .int x1), (2, .int x2)] := hl
  have hG : GW g s σ s.heap [] := ⟨hP0, va_S.rf⟩
  unfold M_atWay at h
  have n36 : ∀ (k5 : Int32 → Int32 → Int32 → Int32 → Option (Int32)) (hk5 : ∀ (x1 : Int32) (x2 : Int32) (x3 : Int32) (x4 : Int32) (H : Heap) (locs : List Loc) (ls : Array Slot), lv_has ls 5 [(0, .ref (g.2.1 50)), (1, .int x1), (2, .int x2), (3, .int x3), (4, .int x4)] → GW g s σ H locs → k5 x1 x2 x3 x4 = some r → Wg p l e 0 0 s m args below meth c g (some (.int r)) σ H locs (F0 m 5 ls [])) (x1 : Int32) (x2 : Int32) (x4 : Int32) (t0 : Int32) (t1 : Int32) (H : Heap) (locs : List Loc) (ls : Array Slot), lv_has ls 5 [(0, .ref (g.2.1 50)), (1, .int x1), (2, .int x2), (4, .int x4)] → GW g s σ H locs → M_atWay_n36 k5 x1 x2 x4 t0 t1 = some r → Wg p l e 0 0 s m args below meth c g (some (.int r)) σ H locs (F0 m 36 ls [.int t1, .int t0]) := by
    intro k5 hk5 x1 x2 x4 t0 t1 H locs ls hl hG h
    unfold M_atWay_n36 at h
    refine lv_iadd hx hb dX9_atWay_36 ?_
    refine lv_istore_n (lv' := [(3, .int (t0 + t1)), (0, .ref (g.2.1 50)), (1, .int x1), (2, .int x2), (4, .int x4)]) hx hb dX9_atWay_37 rfl hl (Nat.le_of_ble_eq_true rfl) rfl (fun ls hl => ?_)
    refine lv_iinc (v := (x4 + (1 : Int32))) (lv' := [(4, .int (x4 + (1 : Int32))), (3, .int (t0 + t1)), (0, .ref (g.2.1 50)), (1, .int x1), (2, .int x2)]) hx hb dX9_atWay_38 hl (k := 4) rfl (congrArg (fun z => x4 + z) (by decide)) (Nat.le_of_ble_eq_true rfl) rfl (fun ls hl => ?_)
    refine lv_goto (tgt := 5) hx hb dX9_atWay_41 (by decide) ?_
    exact hk5 x1 x2 (t0 + t1) (x4 + (1 : Int32)) _ _ _ (lv_sub hl [2, 3, 4, 1, 0] rfl) hG h
  have n44 : ∀ (x3 : Int32) (H : Heap) (locs : List Loc) (ls : Array Slot), lv_has ls 5 [(3, .int x3)] → GW g s σ H locs → M_atWay_n44 x3 = some r → Wg p l e 0 0 s m args below meth c g (some (.int r)) σ H locs (F0 m 44 ls []) := by
    intro x3 H locs ls hl hG h
    unfold M_atWay_n44 at h
    refine lv_iload_n hx hb dX9_atWay_44 rfl (lv_at hl 0 rfl) ?_
    cases h
    exact gx_iret hx hb hr hlocks hG dX9_atWay_45
  have n5 : ∀ (k5 : Int32 → Int32 → Int32 → Int32 → Option (Int32)) (hk5 : ∀ (x1 : Int32) (x2 : Int32) (x3 : Int32) (x4 : Int32) (H : Heap) (locs : List Loc) (ls : Array Slot), lv_has ls 5 [(0, .ref (g.2.1 50)), (1, .int x1), (2, .int x2), (3, .int x3), (4, .int x4)] → GW g s σ H locs → k5 x1 x2 x3 x4 = some r → Wg p l e 0 0 s m args below meth c g (some (.int r)) σ H locs (F0 m 5 ls [])) (x1 : Int32) (x2 : Int32) (x3 : Int32) (x4 : Int32) (H : Heap) (locs : List Loc) (ls : Array Slot), lv_has ls 5 [(0, .ref (g.2.1 50)), (1, .int x1), (2, .int x2), (3, .int x3), (4, .int x4)] → GW g s σ H locs → M_atWay_n5 k5 (σ.1 3203) (σ.2.2.1 59) x1 x2 x3 x4 = some r → Wg p l e 0 0 s m args below meth c g (some (.int r)) σ H locs (F0 m 5 ls []) := by
    intro k5 hk5 x1 x2 x3 x4 H locs ls hl hG h
    unfold M_atWay_n5 at h
    refine lv_iload hx hb dX9_atWay_5 (lv_at hl 4 rfl) ?_
    refine lv_aload_n hx hb dX9_atWay_7 rfl (lv_at hl 0 rfl) ?_
    refine gx_get (v := .int (σ.1 3203)) (C := RX9) (T := TX9) (N := 44) hx hb hts mc_X9 hown hK hG (ga_50 g _) rfl 3 (by decide) hw0 rfl rfl dX9_atWay_8 ?_
    refine lv_icmp_ge (tgt := 44) hx hb dX9_atWay_11 (by decide) (fun c1 => ?_) (fun c1 => ?_)
    · have h := ite_t c1 h
      exact n44 x3 _ _ _ (lv_sub hl [3] rfl) hG h
    · have h := ite_f c1 h
      refine lv_iload_n hx hb dX9_atWay_14 rfl (lv_at hl 3 rfl) ?_
      refine lv_aload_n hx hb dX9_atWay_15 rfl (lv_at hl 0 rfl) ?_
      refine gx_get (v := .ref (g.2.1 59)) (C := RX9) (T := TX9) (N := 44) hx hb hts mc_X9 hown hK hG (ga_50 g _) rfl 13 (by decide) hw1 rfl rfl dX9_atWay_16 ?_
      refine lv_bipush (v := (32 : Int32)) hx hb dX9_atWay_19 (by decide) ?_
      refine lv_iload_n hx hb dX9_atWay_21 rfl (lv_at hl 1 rfl) ?_
      refine lv_imul hx hb dX9_atWay_22 ?_
      refine lv_iload hx hb dX9_atWay_23 (lv_at hl 4 rfl) ?_
      refine lv_iadd hx hb dX9_atWay_25 ?_
      obtain ⟨hg2, h⟩ := gd_some h
      refine gx_iald (f := (σ.2.2.1 59)) hx hb hK hG (ga_59 g _) hg2 dX9_atWay_26 ?_
      refine lv_iload_n hx hb dX9_atWay_27 rfl (lv_at hl 2 rfl) ?_
      refine lv_icmp_ne (tgt := 35) hx hb dX9_atWay_28 (by decide) (fun c3 => ?_) (fun c3 => ?_)
      · have h := ite_f c3 h
        refine lv_iconst (v := (0 : Int32)) hx hb dX9_atWay_35 (by decide) ?_
        exact n36 k5 hk5 x1 x2 x4 x3 (0 : Int32) _ _ _ (lv_sub hl [0, 1, 2, 4] rfl) hG h
      · have h := ite_t c3 h
        refine lv_iconst (v := (1 : Int32)) hx hb dX9_atWay_31 (by decide) ?_
        refine lv_goto (tgt := 36) hx hb dX9_atWay_32 (by decide) ?_
        exact n36 k5 hk5 x1 x2 x4 x3 (1 : Int32) _ _ _ (lv_sub hl [0, 1, 2, 4] rfl) hG h
  have l5 : ∀  (F : Nat) (x1 : Int32) (x2 : Int32) (x3 : Int32) (x4 : Int32) (H : Heap) (locs : List Loc) (ls : Array Slot), lv_has ls 5 [(0, .ref (g.2.1 50)), (1, .int x1), (2, .int x2), (3, .int x3), (4, .int x4)] → GW g s σ H locs → M_atWay_l5 (σ.1 3203) (σ.2.2.1 59) F x1 x2 x3 x4 = some r → Wg p l e 0 0 s m args below meth c g (some (.int r)) σ H locs (F0 m 5 ls []) := by
    intro F
    induction F with
    | zero => intro x1 x2 x3 x4 H locs ls hl hG h; exact no_some h
    | succ F ih => intro x1 x2 x3 x4 H locs ls hl hG h; exact n5 (fun x1 x2 x3 x4 => M_atWay_l5 (σ.1 3203) (σ.2.2.1 59) F x1 x2 x3 x4) ih x1 x2 x3 x4 H locs ls hl hG h
  refine lv_iconst (v := (0 : Int32)) hx hb dX9_atWay_0 (by decide) ?_
  refine lv_istore_n (lv' := [(3, .int (0 : Int32)), (0, .ref (g.2.1 50)), (1, .int x1), (2, .int x2)]) hx hb dX9_atWay_1 rfl hl (Nat.le_of_ble_eq_true rfl) rfl (fun ls hl => ?_)
  refine lv_iconst (v := (0 : Int32)) hx hb dX9_atWay_2 (by decide) ?_
  refine lv_istore (lv' := [(4, .int (0 : Int32)), (3, .int (0 : Int32)), (0, .ref (g.2.1 50)), (1, .int x1), (2, .int x2)]) hx hb dX9_atWay_3 hl (Nat.le_of_ble_eq_true rfl) rfl (fun ls hl => ?_)
  exact l5 FUEL x1 x2 (0 : Int32) (0 : Int32) _ _ _ (lv_sub hl [2, 3, 4, 1, 0] rfl) hG h

set_option maxHeartbeats 4000000 in
set_option maxRecDepth 100000 in
theorem c_M_table (l : Launch) (g : GC) (σ : St) (x1 : Int32) (x2 : Int32) (r : Int32) (w_clashP : Int32) (w_clashQ : Int32) (w_far : Int32) (w_heaps : Int32) (w_isMeasured : Int32) (w_isTold : Nat → Int32) (w_tableA : Nat → Int32) (w_tableB : Nat → Int32) (w_tableC : Nat → Int32) (w_wayOf : Nat → Int32) (h : M_table x1 x2 (σ.1 3221) (σ.1 3222) (σ.1 3214) (σ.1 3215) (σ.1 3212) (σ.1 3203) (σ.2.2.1 64) (σ.2.2.1 54) (σ.2.2.1 62) (σ.2.2.1 63) (σ.2.2.1 61) (σ.2.2.1 59) = some (r, w_clashP, w_clashQ, w_far, w_heaps, w_isMeasured, w_isTold, w_tableA, w_tableB, w_tableC, w_wayOf)) : Cn l g yX9_table (Cond.code yX9_table cX9_table 3 (some .int) :: wG) 4 93 [.ref (g.2.1 50), .int x1, .int x2] σ (some (.int r)) (mkS σ [(3221, w_clashP), (3222, w_clashQ), (3214, w_far), (3215, w_heaps), (3212, w_isMeasured)] [] [(64, w_isTold), (62, w_tableA), (63, w_tableB), (61, w_tableC), (59, w_wayOf)] []) := by
  unfold Cn
  refine Met.ofW (cc := cX9_table) (maxL := 3) (ret := (some .int)) (by decide) rfl ?_
  intro p e s m args below meth c s₁ B hml hv
  obtain ⟨hargs, hP0, hK⟩ := hv
  have hx := B.exec
  have hb := B.bytes
  have hr := B.returns
  have hts : ∀ w ∈ wG, w.before args s = true := fun w h => atoms_spec (ws := (Cond.code yX9_table cX9_table 3 (some .int) :: wG)) B.pre w (List.mem_cons_of_mem _ h)
  have hown : s.vm.findClass RX9 = some m.cls := findClass_of_methodNamed B.named
  have hlocks := B.notSynchronized
  have hS9 : CallFix p m c cX9_table 3 s args wG RX9 := ⟨hx, hb, hml, hown, hts⟩
  have hw0 := hts _ mw_5_40
  have hw1 := hts _ mw_4_153
  have hw2 := hts _ mw_4_158
  have hw3 := hts _ mw_4_157
  have hw4 := hts _ mw_4_156
  have hf9 : entryFrame m args 3 = _ := (congrArg (fun a => entryFrame m a 3) hargs).trans (lg_entry_eq m [.ref (g.2.1 50), .int x1, .int x2] 3)
  show Wg p l e 4 93 s m args below meth c g (some (.int r)) (mkS σ [(3221, w_clashP), (3222, w_clashQ), (3214, w_far), (3215, w_heaps), (3212, w_isMeasured)] [] [(64, w_isTold), (62, w_tableA), (63, w_tableB), (61, w_tableC), (59, w_wayOf)] []) s.heap [] (entryFrame m args 3)
  rw [hf9]
  have hl := lv_entry ([.ref (g.2.1 50), .int x1, .int x2]) (n := 3) (Nat.le_of_ble_eq_true rfl)
  generalize (lg_sl ([.ref (g.2.1 50), .int x1, .int x2]) ++ List.replicate (3 - (lg_sl ([.ref (g.2.1 50), .int x1, .int x2])).length) Slot.unset).toArray = ls at hl ⊢
  have hl : lv_has ls 3 [(0, .ref (g.2.1 50)), (1, .int x1), (2, .int x2)] := hl
  have hG : GW g s σ s.heap [] := ⟨hP0, va_S.rf⟩
  have hG : GW g s (mkS σ [(3221, (σ.1 3221)), (3222, (σ.1 3222)), (3214, (σ.1 3214)), (3215, (σ.1 3215)), (3212, (σ.1 3212))] [] [(64, (σ.2.2.1 64)), (62, (σ.2.2.1 62)), (63, (σ.2.2.1 63)), (61, (σ.2.2.1 61)), (59, (σ.2.2.1 59))] []) s.heap [] := GW_self [3221, 3222, 3214, 3215, 3212] [] [64, 62, 63, 61, 59] [] hG
  unfold M_table at h
  have n87 : ∀ (t0 : Int32) (v_clashP : Int32) (v_clashQ : Int32) (v_far : Int32) (v_heaps : Int32) (v_isMeasured : Int32) (v_isTold : Nat → Int32) (v_tableA : Nat → Int32) (v_tableB : Nat → Int32) (v_tableC : Nat → Int32) (v_wayOf : Nat → Int32) (H : Heap) (locs : List Loc) (ls : Array Slot), lv_has ls 3 [] → GW g s (mkS σ [(3221, v_clashP), (3222, v_clashQ), (3214, v_far), (3215, v_heaps), (3212, v_isMeasured)] [] [(64, v_isTold), (62, v_tableA), (63, v_tableB), (61, v_tableC), (59, v_wayOf)] []) H locs → M_table_n87 t0 v_clashP v_clashQ v_far v_heaps v_isMeasured v_isTold v_tableA v_tableB v_tableC v_wayOf = some (r, w_clashP, w_clashQ, w_far, w_heaps, w_isMeasured, w_isTold, w_tableA, w_tableB, w_tableC, w_wayOf) → Wg p l e 4 93 s m args below meth c g (some (.int r)) (mkS σ [(3221, w_clashP), (3222, w_clashQ), (3214, w_far), (3215, w_heaps), (3212, w_isMeasured)] [] [(64, w_isTold), (62, w_tableA), (63, w_tableB), (61, w_tableC), (59, w_wayOf)] []) H locs (F0 m 87 ls [.int t0]) := by
    intro t0 v_clashP v_clashQ v_far v_heaps v_isMeasured v_isTold v_tableA v_tableB v_tableC v_wayOf H locs ls hl hG h
    unfold M_table_n87 at h
    cases h
    exact gx_iret hx hb hr hlocks hG dX9_table_87
  refine lv_iload_n hx hb dX9_table_0 rfl (lv_at hl 2 rfl) ?_
  refine lv_i2l hx hb dX9_table_1 rfl ?_
  refine lv_lconst (v := (0 : Int64)) hx hb dX9_table_2 (by decide) ?_
  refine lv_ldc2 hx hb hown hw0 dX9_table_3 ?_
  obtain ⟨z1, hc2, h⟩ := bnd_some h
  refine gx_cS (σ' := (mkS σ [(3221, (σ.1 3221)), (3222, (σ.1 3222)), (3214, (σ.1 3214)), (3215, (σ.1 3215)), (3212, (σ.1 3212))] [] [(64, (σ.2.2.1 64)), (62, (σ.2.2.1 62)), (63, (σ.2.2.1 63)), (61, (σ.2.2.1 61)), (59, (σ.2.2.1 59))] [])) (r := (some (.int z1))) (rest := []) (As := [.long (x2.toInt64), .long (0 : Int64), .long (3 : Int64)]) hS9 (c_M_in l g (mkS σ [(3221, (σ.1 3221)), (3222, (σ.1 3222)), (3214, (σ.1 3214)), (3215, (σ.1 3215)), (3212, (σ.1 3212))] [] [(64, (σ.2.2.1 64)), (62, (σ.2.2.1 62)), (63, (σ.2.2.1 63)), (61, (σ.2.2.1 61)), (59, (σ.2.2.1 59))] []) (x2.toInt64) (0 : Int64) (3 : Int64) z1 hc2) rfl (va_cwS 3 hts (gz_S mw_5_41 mw_5_42 mw_1_11 mw_5_43) rfl rfl rfl hdS_X9_in ⟨Nat.le_of_ble_eq_true rfl, Nat.le_of_ble_eq_true rfl⟩) hK hG rfl hl.1 rfl (Nat.le_of_ble_eq_true rfl) dX9_table_6 (fun H locs hG => ?_)
  refine W.eq (g2 := F0 m 9 ls [.int z1]) rfl ?_
  refine lv_if_ne (tgt := 14) hx hb dX9_table_9 (by decide) (fun c3 => ?_) (fun c3 => ?_)
  · have h := ite_f c3 h
    refine lv_aload_n hx hb dX9_table_14 rfl (lv_at hl 0 rfl) ?_
    obtain ⟨z4, hc5, h⟩ := bnd_some h
    refine gx_cV (σ' := (mkS σ [(3221, z4.2.1), (3222, z4.2.2.1), (3214, z4.2.2.2.1), (3215, z4.2.2.2.2.1), (3212, z4.2.2.2.2.2.1)] [] [(64, z4.2.2.2.2.2.2.1), (62, z4.2.2.2.2.2.2.2.1), (63, z4.2.2.2.2.2.2.2.2.1), (61, z4.2.2.2.2.2.2.2.2.2.1), (59, z4.2.2.2.2.2.2.2.2.2.2)] [])) (r := (some (.int z4.1))) (rest := []) (As := []) hS9 (c_M_isLike l g (mkS σ [(3221, (σ.1 3221)), (3222, (σ.1 3222)), (3214, (σ.1 3214)), (3215, (σ.1 3215)), (3212, (σ.1 3212))] [] [(64, (σ.2.2.1 64)), (62, (σ.2.2.1 62)), (63, (σ.2.2.1 63)), (61, (σ.2.2.1 61)), (59, (σ.2.2.1 59))] []) z4.1 z4.2.1 z4.2.2.1 z4.2.2.2.1 z4.2.2.2.2.1 z4.2.2.2.2.2.1 z4.2.2.2.2.2.2.1 z4.2.2.2.2.2.2.2.1 z4.2.2.2.2.2.2.2.2.1 z4.2.2.2.2.2.2.2.2.2.1 z4.2.2.2.2.2.2.2.2.2.2 hc5) (mk_mk rfl rfl rfl rfl) (cwV 0 hts (gz_V mw_5_165 mw_5_167 ms_4_4 mw_1_11 mw_5_168) rfl rfl rfl hdV_X9_isLike ⟨Nat.le_of_ble_eq_true rfl, Nat.le_of_ble_eq_true rfl⟩) hK hG (ga_50 g _) rfl rfl rfl hl.1 rfl (Nat.le_of_ble_eq_true rfl) dX9_table_15 (fun H locs hG => ?_)
    refine W.eq (g2 := F0 m 18 ls [.int z4.1]) rfl ?_
    refine lv_if_ne (tgt := 24) hx hb dX9_table_18 (by decide) (fun c6 => ?_) (fun c6 => ?_)
    · have h := ite_f c6 h
      refine lv_iload_n hx hb dX9_table_24 rfl (lv_at hl 1 rfl) ?_
      refine lv_i2l hx hb dX9_table_25 rfl ?_
      refine lv_lconst (v := (0 : Int64)) hx hb dX9_table_26 (by decide) ?_
      refine lv_aload_n hx hb dX9_table_27 rfl (lv_at hl 0 rfl) ?_
      refine gx_get (v := .int z4.2.2.2.1) (C := RX9) (T := TX9) (N := 44) hx hb hts mc_X9 hown hK hG (ga_50 g _) rfl 14 (by decide) hw1 rfl rfl dX9_table_28 ?_
      refine lv_i2l hx hb dX9_table_31 rfl ?_
      obtain ⟨z7, hc8, h⟩ := bnd_some h
      refine gx_cS (σ' := (mkS σ [(3221, z4.2.1), (3222, z4.2.2.1), (3214, z4.2.2.2.1), (3215, z4.2.2.2.2.1), (3212, z4.2.2.2.2.2.1)] [] [(64, z4.2.2.2.2.2.2.1), (62, z4.2.2.2.2.2.2.2.1), (63, z4.2.2.2.2.2.2.2.2.1), (61, z4.2.2.2.2.2.2.2.2.2.1), (59, z4.2.2.2.2.2.2.2.2.2.2)] [])) (r := (some (.int z7))) (rest := []) (As := [.long (x1.toInt64), .long (0 : Int64), .long (z4.2.2.2.1.toInt64)]) hS9 (c_M_in l g (mkS σ [(3221, z4.2.1), (3222, z4.2.2.1), (3214, z4.2.2.2.1), (3215, z4.2.2.2.2.1), (3212, z4.2.2.2.2.2.1)] [] [(64, z4.2.2.2.2.2.2.1), (62, z4.2.2.2.2.2.2.2.1), (63, z4.2.2.2.2.2.2.2.2.1), (61, z4.2.2.2.2.2.2.2.2.2.1), (59, z4.2.2.2.2.2.2.2.2.2.2)] []) (x1.toInt64) (0 : Int64) (z4.2.2.2.1.toInt64) z7 hc8) rfl (va_cwS 3 hts (gz_S mw_5_41 mw_5_42 mw_1_11 mw_5_43) rfl rfl rfl hdS_X9_in ⟨Nat.le_of_ble_eq_true rfl, Nat.le_of_ble_eq_true rfl⟩) hK hG rfl hl.1 rfl (Nat.le_of_ble_eq_true rfl) dX9_table_32 (fun H locs hG => ?_)
      refine W.eq (g2 := F0 m 35 ls [.int z7]) rfl ?_
      refine lv_if_ne (tgt := 40) hx hb dX9_table_35 (by decide) (fun c9 => ?_) (fun c9 => ?_)
      · have h := ite_f c9 h
        refine lv_iload_n hx hb dX9_table_40 rfl (lv_at hl 2 rfl) ?_
        refine lv_if_ne (tgt := 53) hx hb dX9_table_41 (by decide) (fun c10 => ?_) (fun c10 => ?_)
        · have h := ite_f c10 h
          refine lv_iload_n hx hb dX9_table_53 rfl (lv_at hl 2 rfl) ?_
          refine lv_iconst (v := (1 : Int32)) hx hb dX9_table_54 (by decide) ?_
          refine lv_icmp_ne (tgt := 67) hx hb dX9_table_55 (by decide) (fun c11 => ?_) (fun c11 => ?_)
          · have h := ite_f c11 h
            refine lv_iload_n hx hb dX9_table_67 rfl (lv_at hl 2 rfl) ?_
            refine lv_iconst (v := (2 : Int32)) hx hb dX9_table_68 (by decide) ?_
            refine lv_icmp_ne (tgt := 81) hx hb dX9_table_69 (by decide) (fun c12 => ?_) (fun c12 => ?_)
            · have h := ite_f c12 h
              refine lv_aload_n hx hb dX9_table_81 rfl (lv_at hl 0 rfl) ?_
              refine lv_iconst (v := (0 : Int32)) hx hb dX9_table_82 (by decide) ?_
              refine lv_iload_n hx hb dX9_table_83 rfl (lv_at hl 1 rfl) ?_
              obtain ⟨z13, hc14, h⟩ := bnd_some h
              refine gx_cV (σ' := (mkS σ [(3221, z4.2.1), (3222, z4.2.2.1), (3214, z4.2.2.2.1), (3215, z4.2.2.2.2.1), (3212, z4.2.2.2.2.2.1)] [] [(64, z4.2.2.2.2.2.2.1), (62, z4.2.2.2.2.2.2.2.1), (63, z4.2.2.2.2.2.2.2.2.1), (61, z4.2.2.2.2.2.2.2.2.2.1), (59, z4.2.2.2.2.2.2.2.2.2.2)] [])) (r := (some (.int z13))) (rest := []) (As := [.int (0 : Int32), .int x1]) hS9 (c_M_atWay l g (mkS σ [(3221, z4.2.1), (3222, z4.2.2.1), (3214, z4.2.2.2.1), (3215, z4.2.2.2.2.1), (3212, z4.2.2.2.2.2.1)] [] [(64, z4.2.2.2.2.2.2.1), (62, z4.2.2.2.2.2.2.2.1), (63, z4.2.2.2.2.2.2.2.2.1), (61, z4.2.2.2.2.2.2.2.2.2.1), (59, z4.2.2.2.2.2.2.2.2.2.2)] []) (0 : Int32) x1 z13 hc14) rfl (cwV 2 hts (gz_V mw_5_181 mw_5_183 ms_4_6 mw_1_11 mw_5_184) rfl rfl rfl hdV_X9_atWay ⟨Nat.le_of_ble_eq_true rfl, Nat.le_of_ble_eq_true rfl⟩) hK hG (ga_50 g _) rfl rfl rfl hl.1 rfl (Nat.le_of_ble_eq_true rfl) dX9_table_84 (fun H locs hG => ?_)
              refine W.eq (g2 := F0 m 87 ls [.int z13]) rfl ?_
              exact n87 z13 z4.2.1 z4.2.2.1 z4.2.2.2.1 z4.2.2.2.2.1 z4.2.2.2.2.2.1 z4.2.2.2.2.2.2.1 z4.2.2.2.2.2.2.2.1 z4.2.2.2.2.2.2.2.2.1 z4.2.2.2.2.2.2.2.2.2.1 z4.2.2.2.2.2.2.2.2.2.2 _ _ _ (lv_sub hl [] rfl) hG h
            · have h := ite_t c12 h
              refine lv_aload_n hx hb dX9_table_72 rfl (lv_at hl 0 rfl) ?_
              refine gx_get (v := .ref (g.2.1 63)) (C := RX9) (T := TX9) (N := 44) hx hb hts mc_X9 hown hK hG (ga_50 g _) rfl 19 (by decide) hw2 rfl rfl dX9_table_73 ?_
              refine lv_iload_n hx hb dX9_table_76 rfl (lv_at hl 1 rfl) ?_
              obtain ⟨hg15, h⟩ := gd_some h
              refine gx_iald (f := z4.2.2.2.2.2.2.2.2.1) hx hb hK hG (ga_63 g _) hg15 dX9_table_77 ?_
              refine lv_goto (tgt := 87) hx hb dX9_table_78 (by decide) ?_
              exact n87 (z4.2.2.2.2.2.2.2.2.1 (x1.toNatClampNeg)) z4.2.1 z4.2.2.1 z4.2.2.2.1 z4.2.2.2.2.1 z4.2.2.2.2.2.1 z4.2.2.2.2.2.2.1 z4.2.2.2.2.2.2.2.1 z4.2.2.2.2.2.2.2.2.1 z4.2.2.2.2.2.2.2.2.2.1 z4.2.2.2.2.2.2.2.2.2.2 _ _ _ (lv_sub hl [] rfl) hG h
          · have h := ite_t c11 h
            refine lv_aload_n hx hb dX9_table_58 rfl (lv_at hl 0 rfl) ?_
            refine gx_get (v := .ref (g.2.1 62)) (C := RX9) (T := TX9) (N := 44) hx hb hts mc_X9 hown hK hG (ga_50 g _) rfl 18 (by decide) hw3 rfl rfl dX9_table_59 ?_
            refine lv_iload_n hx hb dX9_table_62 rfl (lv_at hl 1 rfl) ?_
            obtain ⟨hg16, h⟩ := gd_some h
            refine gx_iald (f := z4.2.2.2.2.2.2.2.1) hx hb hK hG (ga_62 g _) hg16 dX9_table_63 ?_
            refine lv_goto (tgt := 87) hx hb dX9_table_64 (by decide) ?_
            exact n87 (z4.2.2.2.2.2.2.2.1 (x1.toNatClampNeg)) z4.2.1 z4.2.2.1 z4.2.2.2.1 z4.2.2.2.2.1 z4.2.2.2.2.2.1 z4.2.2.2.2.2.2.1 z4.2.2.2.2.2.2.2.1 z4.2.2.2.2.2.2.2.2.1 z4.2.2.2.2.2.2.2.2.2.1 z4.2.2.2.2.2.2.2.2.2.2 _ _ _ (lv_sub hl [] rfl) hG h
        · have h := ite_t c10 h
          refine lv_aload_n hx hb dX9_table_44 rfl (lv_at hl 0 rfl) ?_
          refine gx_get (v := .ref (g.2.1 61)) (C := RX9) (T := TX9) (N := 44) hx hb hts mc_X9 hown hK hG (ga_50 g _) rfl 17 (by decide) hw4 rfl rfl dX9_table_45 ?_
          refine lv_iload_n hx hb dX9_table_48 rfl (lv_at hl 1 rfl) ?_
          obtain ⟨hg17, h⟩ := gd_some h
          refine gx_iald (f := z4.2.2.2.2.2.2.2.2.2.1) hx hb hK hG (ga_61 g _) hg17 dX9_table_49 ?_
          refine lv_goto (tgt := 87) hx hb dX9_table_50 (by decide) ?_
          exact n87 (z4.2.2.2.2.2.2.2.2.2.1 (x1.toNatClampNeg)) z4.2.1 z4.2.2.1 z4.2.2.2.1 z4.2.2.2.2.1 z4.2.2.2.2.2.1 z4.2.2.2.2.2.2.1 z4.2.2.2.2.2.2.2.1 z4.2.2.2.2.2.2.2.2.1 z4.2.2.2.2.2.2.2.2.2.1 z4.2.2.2.2.2.2.2.2.2.2 _ _ _ (lv_sub hl [] rfl) hG h
      · have h := ite_t c9 h
        refine lv_iconst (v := (-1 : Int32)) hx hb dX9_table_38 (by decide) ?_
        cases h
        exact gx_iret hx hb hr hlocks hG dX9_table_39
    · have h := ite_t c6 h
      refine lv_bipush (v := (-5 : Int32)) hx hb dX9_table_21 (by decide) ?_
      cases h
      exact gx_iret hx hb hr hlocks hG dX9_table_23
  · have h := ite_t c3 h
    refine lv_iconst (v := (-1 : Int32)) hx hb dX9_table_12 (by decide) ?_
    cases h
    exact gx_iret hx hb hr hlocks hG dX9_table_13

set_option maxHeartbeats 4000000 in
set_option maxRecDepth 100000 in
theorem c_M_tell (l : Launch) (g : GC) (σ : St) (x1 : Int32) (r : Int32) (w_length : Int32) (w_toldB : Nat → Int32) (w_toldC : Nat → Int32) (h : M_tell x1 (σ.1 3208) (σ.2.2.1 56) (σ.2.2.1 57) = some (r, w_length, w_toldB, w_toldC)) : Cn l g yX9_tell (Cond.code yX9_tell cX9_tell 3 (some .int) :: wG) 1 25 [.ref (g.2.1 50), .int x1] σ (some (.int r)) (mkS σ [(3208, w_length)] [] [(56, w_toldB), (57, w_toldC)] []) := by
  unfold Cn
  refine Met.ofW (cc := cX9_tell) (maxL := 3) (ret := (some .int)) (by decide) rfl ?_
  intro p e s m args below meth c s₁ B hml hv
  obtain ⟨hargs, hP0, hK⟩ := hv
  have hx := B.exec
  have hb := B.bytes
  have hr := B.returns
  have hts : ∀ w ∈ wG, w.before args s = true := fun w h => atoms_spec (ws := (Cond.code yX9_tell cX9_tell 3 (some .int) :: wG)) B.pre w (List.mem_cons_of_mem _ h)
  have hown : s.vm.findClass RX9 = some m.cls := findClass_of_methodNamed B.named
  have hlocks := B.notSynchronized
  have hS9 : CallFix p m c cX9_tell 3 s args wG RX9 := ⟨hx, hb, hml, hown, hts⟩
  have hw0 := hts _ mw_4_149
  have hw1 := hts _ mw_4_148
  have hw2 := hts _ mw_5_193
  have hw3 := hts _ mw_4_147
  have hf9 : entryFrame m args 3 = _ := (congrArg (fun a => entryFrame m a 3) hargs).trans (lg_entry_eq m [.ref (g.2.1 50), .int x1] 3)
  show Wg p l e 1 25 s m args below meth c g (some (.int r)) (mkS σ [(3208, w_length)] [] [(56, w_toldB), (57, w_toldC)] []) s.heap [] (entryFrame m args 3)
  rw [hf9]
  have hl := lv_entry ([.ref (g.2.1 50), .int x1]) (n := 3) (Nat.le_of_ble_eq_true rfl)
  generalize (lg_sl ([.ref (g.2.1 50), .int x1]) ++ List.replicate (3 - (lg_sl ([.ref (g.2.1 50), .int x1])).length) Slot.unset).toArray = ls at hl ⊢
  have hl : lv_has ls 3 [(0, .ref (g.2.1 50)), (1, .int x1)] := hl
  have hG : GW g s σ s.heap [] := ⟨hP0, va_S.rf⟩
  have hG : GW g s (mkS σ [(3208, (σ.1 3208))] [] [(56, (σ.2.2.1 56)), (57, (σ.2.2.1 57))] []) s.heap [] := GW_self [3208] [] [56, 57] [] hG
  unfold M_tell at h
  have n62 : ∀ (k21 : Int32 → Int32 → Int32 → (Nat → Int32) → (Nat → Int32) → Option (Int32 × Int32 × (Nat → Int32) × (Nat → Int32))) (hk21 : ∀ (x1 : Int32) (x2 : Int32) (v_length : Int32) (v_toldB : Nat → Int32) (v_toldC : Nat → Int32) (H : Heap) (locs : List Loc) (ls : Array Slot), lv_has ls 3 [(0, .ref (g.2.1 50)), (1, .int x1), (2, .int x2)] → GW g s (mkS σ [(3208, v_length)] [] [(56, v_toldB), (57, v_toldC)] []) H locs → k21 x1 x2 v_length v_toldB v_toldC = some (r, w_length, w_toldB, w_toldC) → Wg p l e 1 25 s m args below meth c g (some (.int r)) (mkS σ [(3208, w_length)] [] [(56, w_toldB), (57, w_toldC)] []) H locs (F0 m 21 ls [])) (x1 : Int32) (x2 : Int32) (t1 : Int32) (t2 : Int32) (v_length : Int32) (v_toldB : Nat → Int32) (v_toldC : Nat → Int32) (H : Heap) (locs : List Loc) (ls : Array Slot), lv_has ls 3 [(0, .ref (g.2.1 50)), (1, .int x1), (2, .int x2)] → GW g s (mkS σ [(3208, v_length)] [] [(56, v_toldB), (57, v_toldC)] []) H locs → M_tell_n62 k21 x1 x2 t1 t2 v_length v_toldB v_toldC = some (r, w_length, w_toldB, w_toldC) → Wg p l e 1 25 s m args below meth c g (some (.int r)) (mkS σ [(3208, w_length)] [] [(56, w_toldB), (57, w_toldC)] []) H locs (F0 m 62 ls [.int t2, .int t1, .ref (g.2.1 57)]) := by
    intro k21 hk21 x1 x2 t1 t2 v_length v_toldB v_toldC H locs ls hl hG h
    unfold M_tell_n62 at h
    obtain ⟨hg1, h⟩ := gd_some h
    refine gx_iast (σ' := (mkS σ [(3208, v_length)] [] [(56, v_toldB), (57, (upd v_toldC (t1.toNatClampNeg) t2))] [])) (f := v_toldC) hx hb hK hG (ga_57 g _) hg1 ((gs_57 g _ _).trans (congrArg (g_cells g) (mk_c 1 rfl rfl))) dX9_tell_62 (fun H locs hG => ?_)
    refine lv_iinc (v := (x2 + (1 : Int32))) (lv' := [(2, .int (x2 + (1 : Int32))), (0, .ref (g.2.1 50)), (1, .int x1)]) hx hb dX9_tell_63 hl (k := 2) rfl (congrArg (fun z => x2 + z) (by decide)) (Nat.le_of_ble_eq_true rfl) rfl (fun ls hl => ?_)
    refine lv_goto (tgt := 21) hx hb dX9_tell_66 (by decide) ?_
    exact hk21 x1 (x2 + (1 : Int32)) v_length v_toldB (upd v_toldC (t1.toNatClampNeg) t2) _ _ _ (lv_sub hl [1, 2, 0] rfl) hG h
  have n61 : ∀ (k21 : Int32 → Int32 → Int32 → (Nat → Int32) → (Nat → Int32) → Option (Int32 × Int32 × (Nat → Int32) × (Nat → Int32))) (hk21 : ∀ (x1 : Int32) (x2 : Int32) (v_length : Int32) (v_toldB : Nat → Int32) (v_toldC : Nat → Int32) (H : Heap) (locs : List Loc) (ls : Array Slot), lv_has ls 3 [(0, .ref (g.2.1 50)), (1, .int x1), (2, .int x2)] → GW g s (mkS σ [(3208, v_length)] [] [(56, v_toldB), (57, v_toldC)] []) H locs → k21 x1 x2 v_length v_toldB v_toldC = some (r, w_length, w_toldB, w_toldC) → Wg p l e 1 25 s m args below meth c g (some (.int r)) (mkS σ [(3208, w_length)] [] [(56, w_toldB), (57, w_toldC)] []) H locs (F0 m 21 ls [])) (x1 : Int32) (x2 : Int32) (t1 : Int32) (v_length : Int32) (v_toldB : Nat → Int32) (v_toldC : Nat → Int32) (H : Heap) (locs : List Loc) (ls : Array Slot), lv_has ls 3 [(0, .ref (g.2.1 50)), (1, .int x1), (2, .int x2)] → GW g s (mkS σ [(3208, v_length)] [] [(56, v_toldB), (57, v_toldC)] []) H locs → M_tell_n61 k21 x1 x2 t1 v_length v_toldB v_toldC = some (r, w_length, w_toldB, w_toldC) → Wg p l e 1 25 s m args below meth c g (some (.int r)) (mkS σ [(3208, w_length)] [] [(56, w_toldB), (57, w_toldC)] []) H locs (F0 m 61 ls [.int t1, .ref (g.2.1 57)]) := by
    intro k21 hk21 x1 x2 t1 v_length v_toldB v_toldC H locs ls hl hG h
    unfold M_tell_n61 at h
    refine lv_iconst (v := (0 : Int32)) hx hb dX9_tell_61 (by decide) ?_
    exact n62 k21 hk21 x1 x2 t1 (0 : Int32) v_length v_toldB v_toldC _ _ _ (lv_sub hl [0, 1, 2] rfl) hG h
  have n42 : ∀ (k21 : Int32 → Int32 → Int32 → (Nat → Int32) → (Nat → Int32) → Option (Int32 × Int32 × (Nat → Int32) × (Nat → Int32))) (hk21 : ∀ (x1 : Int32) (x2 : Int32) (v_length : Int32) (v_toldB : Nat → Int32) (v_toldC : Nat → Int32) (H : Heap) (locs : List Loc) (ls : Array Slot), lv_has ls 3 [(0, .ref (g.2.1 50)), (1, .int x1), (2, .int x2)] → GW g s (mkS σ [(3208, v_length)] [] [(56, v_toldB), (57, v_toldC)] []) H locs → k21 x1 x2 v_length v_toldB v_toldC = some (r, w_length, w_toldB, w_toldC) → Wg p l e 1 25 s m args below meth c g (some (.int r)) (mkS σ [(3208, w_length)] [] [(56, w_toldB), (57, w_toldC)] []) H locs (F0 m 21 ls [])) (x1 : Int32) (x2 : Int32) (t1 : Int32) (t2 : Int32) (v_length : Int32) (v_toldB : Nat → Int32) (v_toldC : Nat → Int32) (H : Heap) (locs : List Loc) (ls : Array Slot), lv_has ls 3 [(0, .ref (g.2.1 50)), (1, .int x1), (2, .int x2)] → GW g s (mkS σ [(3208, v_length)] [] [(56, v_toldB), (57, v_toldC)] []) H locs → M_tell_n42 k21 x1 x2 t1 t2 v_length v_toldB v_toldC = some (r, w_length, w_toldB, w_toldC) → Wg p l e 1 25 s m args below meth c g (some (.int r)) (mkS σ [(3208, w_length)] [] [(56, w_toldB), (57, w_toldC)] []) H locs (F0 m 42 ls [.int t2, .int t1, .ref (g.2.1 56)]) := by
    intro k21 hk21 x1 x2 t1 t2 v_length v_toldB v_toldC H locs ls hl hG h
    unfold M_tell_n42 at h
    obtain ⟨hg2, h⟩ := gd_some h
    refine gx_iast (σ' := (mkS σ [(3208, v_length)] [] [(56, (upd v_toldB (t1.toNatClampNeg) t2)), (57, v_toldC)] [])) (f := v_toldB) hx hb hK hG (ga_56 g _) hg2 ((gs_56 g _ _).trans (congrArg (g_cells g) (mk_c 0 rfl rfl))) dX9_tell_42 (fun H locs hG => ?_)
    refine lv_aload_n hx hb dX9_tell_43 rfl (lv_at hl 0 rfl) ?_
    refine gx_get (v := .ref (g.2.1 57)) (C := RX9) (T := TX9) (N := 44) hx hb hts mc_X9 hown hK hG (ga_50 g _) rfl 10 (by decide) hw0 rfl rfl dX9_tell_44 ?_
    refine lv_iload_n hx hb dX9_tell_47 rfl (lv_at hl 2 rfl) ?_
    refine lv_iload_n hx hb dX9_tell_48 rfl (lv_at hl 2 rfl) ?_
    refine lv_if_le (tgt := 61) hx hb dX9_tell_49 (by decide) (fun c3 => ?_) (fun c3 => ?_)
    · have h := ite_t c3 h
      exact n61 k21 hk21 x1 x2 x2 v_length (upd v_toldB (t1.toNatClampNeg) t2) v_toldC _ _ _ (lv_sub hl [0, 1, 2] rfl) hG h
    · have h := ite_f c3 h
      refine lv_iload_n hx hb dX9_tell_52 rfl (lv_at hl 2 rfl) ?_
      refine lv_iload_n hx hb dX9_tell_53 rfl (lv_at hl 1 rfl) ?_
      refine lv_icmp_gt (tgt := 61) hx hb dX9_tell_54 (by decide) (fun c4 => ?_) (fun c4 => ?_)
      · have h := ite_t c4 h
        exact n61 k21 hk21 x1 x2 x2 v_length (upd v_toldB (t1.toNatClampNeg) t2) v_toldC _ _ _ (lv_sub hl [0, 1, 2] rfl) hG h
      · have h := ite_f c4 h
        refine lv_iconst (v := (1 : Int32)) hx hb dX9_tell_57 (by decide) ?_
        refine lv_goto (tgt := 62) hx hb dX9_tell_58 (by decide) ?_
        exact n62 k21 hk21 x1 x2 x2 (1 : Int32) v_length (upd v_toldB (t1.toNatClampNeg) t2) v_toldC _ _ _ (lv_sub hl [0, 1, 2] rfl) hG h
  have n69 : ∀ (v_length : Int32) (v_toldB : Nat → Int32) (v_toldC : Nat → Int32) (H : Heap) (locs : List Loc) (ls : Array Slot), lv_has ls 3 [] → GW g s (mkS σ [(3208, v_length)] [] [(56, v_toldB), (57, v_toldC)] []) H locs → M_tell_n69 v_length v_toldB v_toldC = some (r, w_length, w_toldB, w_toldC) → Wg p l e 1 25 s m args below meth c g (some (.int r)) (mkS σ [(3208, w_length)] [] [(56, w_toldB), (57, w_toldC)] []) H locs (F0 m 69 ls []) := by
    intro v_length v_toldB v_toldC H locs ls hl hG h
    unfold M_tell_n69 at h
    refine lv_iconst (v := (1 : Int32)) hx hb dX9_tell_69 (by decide) ?_
    cases h
    exact gx_iret hx hb hr hlocks hG dX9_tell_70
  have n21 : ∀ (k21 : Int32 → Int32 → Int32 → (Nat → Int32) → (Nat → Int32) → Option (Int32 × Int32 × (Nat → Int32) × (Nat → Int32))) (hk21 : ∀ (x1 : Int32) (x2 : Int32) (v_length : Int32) (v_toldB : Nat → Int32) (v_toldC : Nat → Int32) (H : Heap) (locs : List Loc) (ls : Array Slot), lv_has ls 3 [(0, .ref (g.2.1 50)), (1, .int x1), (2, .int x2)] → GW g s (mkS σ [(3208, v_length)] [] [(56, v_toldB), (57, v_toldC)] []) H locs → k21 x1 x2 v_length v_toldB v_toldC = some (r, w_length, w_toldB, w_toldC) → Wg p l e 1 25 s m args below meth c g (some (.int r)) (mkS σ [(3208, w_length)] [] [(56, w_toldB), (57, w_toldC)] []) H locs (F0 m 21 ls [])) (x1 : Int32) (x2 : Int32) (v_length : Int32) (v_toldB : Nat → Int32) (v_toldC : Nat → Int32) (H : Heap) (locs : List Loc) (ls : Array Slot), lv_has ls 3 [(0, .ref (g.2.1 50)), (1, .int x1), (2, .int x2)] → GW g s (mkS σ [(3208, v_length)] [] [(56, v_toldB), (57, v_toldC)] []) H locs → M_tell_n21 k21 x1 x2 v_length v_toldB v_toldC = some (r, w_length, w_toldB, w_toldC) → Wg p l e 1 25 s m args below meth c g (some (.int r)) (mkS σ [(3208, w_length)] [] [(56, w_toldB), (57, w_toldC)] []) H locs (F0 m 21 ls []) := by
    intro k21 hk21 x1 x2 v_length v_toldB v_toldC H locs ls hl hG h
    unfold M_tell_n21 at h
    refine lv_iload_n hx hb dX9_tell_21 rfl (lv_at hl 2 rfl) ?_
    refine lv_bipush (v := (6 : Int32)) hx hb dX9_tell_22 (by decide) ?_
    refine lv_icmp_ge (tgt := 69) hx hb dX9_tell_24 (by decide) (fun c5 => ?_) (fun c5 => ?_)
    · have h := ite_t c5 h
      exact n69 v_length v_toldB v_toldC _ _ _ (lv_sub hl [] rfl) hG h
    · have h := ite_f c5 h
      refine lv_aload_n hx hb dX9_tell_27 rfl (lv_at hl 0 rfl) ?_
      refine gx_get (v := .ref (g.2.1 56)) (C := RX9) (T := TX9) (N := 44) hx hb hts mc_X9 hown hK hG (ga_50 g _) rfl 9 (by decide) hw1 rfl rfl dX9_tell_28 ?_
      refine lv_iload_n hx hb dX9_tell_31 rfl (lv_at hl 2 rfl) ?_
      refine lv_iload_n hx hb dX9_tell_32 rfl (lv_at hl 2 rfl) ?_
      refine lv_iload_n hx hb dX9_tell_33 rfl (lv_at hl 1 rfl) ?_
      refine lv_icmp_ge (tgt := 41) hx hb dX9_tell_34 (by decide) (fun c6 => ?_) (fun c6 => ?_)
      · have h := ite_t c6 h
        refine lv_iconst (v := (0 : Int32)) hx hb dX9_tell_41 (by decide) ?_
        exact n42 k21 hk21 x1 x2 x2 (0 : Int32) v_length v_toldB v_toldC _ _ _ (lv_sub hl [0, 1, 2] rfl) hG h
      · have h := ite_f c6 h
        refine lv_iconst (v := (1 : Int32)) hx hb dX9_tell_37 (by decide) ?_
        refine lv_goto (tgt := 42) hx hb dX9_tell_38 (by decide) ?_
        exact n42 k21 hk21 x1 x2 x2 (1 : Int32) v_length v_toldB v_toldC _ _ _ (lv_sub hl [0, 1, 2] rfl) hG h
  have l21 : ∀  (F : Nat) (x1 : Int32) (x2 : Int32) (v_length : Int32) (v_toldB : Nat → Int32) (v_toldC : Nat → Int32) (H : Heap) (locs : List Loc) (ls : Array Slot), lv_has ls 3 [(0, .ref (g.2.1 50)), (1, .int x1), (2, .int x2)] → GW g s (mkS σ [(3208, v_length)] [] [(56, v_toldB), (57, v_toldC)] []) H locs → M_tell_l21 F x1 x2 v_length v_toldB v_toldC = some (r, w_length, w_toldB, w_toldC) → Wg p l e 1 25 s m args below meth c g (some (.int r)) (mkS σ [(3208, w_length)] [] [(56, w_toldB), (57, w_toldC)] []) H locs (F0 m 21 ls []) := by
    intro F
    induction F with
    | zero => intro x1 x2 v_length v_toldB v_toldC H locs ls hl hG h; exact no_some h
    | succ F ih => intro x1 x2 v_length v_toldB v_toldC H locs ls hl hG h; exact n21 (fun x1 x2 v_length v_toldB v_toldC => M_tell_l21 F x1 x2 v_length v_toldB v_toldC) ih x1 x2 v_length v_toldB v_toldC H locs ls hl hG h
  refine lv_iload_n hx hb dX9_tell_0 rfl (lv_at hl 1 rfl) ?_
  refine lv_i2l hx hb dX9_tell_1 rfl ?_
  refine lv_lconst (v := (1 : Int64)) hx hb dX9_tell_2 (by decide) ?_
  refine lv_ldc2 hx hb hown hw2 dX9_tell_3 ?_
  obtain ⟨z7, hc8, h⟩ := bnd_some h
  refine gx_cS (σ' := (mkS σ [(3208, (σ.1 3208))] [] [(56, (σ.2.2.1 56)), (57, (σ.2.2.1 57))] [])) (r := (some (.int z7))) (rest := []) (As := [.long (x1.toInt64), .long (1 : Int64), .long (5 : Int64)]) hS9 (c_M_in l g (mkS σ [(3208, (σ.1 3208))] [] [(56, (σ.2.2.1 56)), (57, (σ.2.2.1 57))] []) (x1.toInt64) (1 : Int64) (5 : Int64) z7 hc8) rfl (va_cwS 3 hts (gz_S mw_5_41 mw_5_42 mw_1_11 mw_5_43) rfl rfl rfl hdS_X9_in ⟨Nat.le_of_ble_eq_true rfl, Nat.le_of_ble_eq_true rfl⟩) hK hG rfl hl.1 rfl (Nat.le_of_ble_eq_true rfl) dX9_tell_6 (fun H locs hG => ?_)
  refine W.eq (g2 := F0 m 9 ls [.int z7]) rfl ?_
  refine lv_if_ne (tgt := 14) hx hb dX9_tell_9 (by decide) (fun c9 => ?_) (fun c9 => ?_)
  · have h := ite_f c9 h
    refine lv_aload_n hx hb dX9_tell_14 rfl (lv_at hl 0 rfl) ?_
    refine lv_iload_n hx hb dX9_tell_15 rfl (lv_at hl 1 rfl) ?_
    refine gx_put (σ' := (mkS σ [(3208, x1)] [] [(56, (σ.2.2.1 56)), (57, (σ.2.2.1 57))] [])) (C := RX9) (T := TX9) (N := 44) hx hb hts mc_X9 tyX9 tyX9_ok nmX9 hown hK hG (ga_50 g _) rfl 8 (by decide) hw3 rfl rfl rfl rfl (Nat.le_of_ble_eq_true rfl) ((gf_3208 g _ _).trans (congrArg (g_cells g) (mk_a 0 rfl rfl))) dX9_tell_16 (fun H locs hG => ?_)
    refine lv_iconst (v := (0 : Int32)) hx hb dX9_tell_19 (by decide) ?_
    refine lv_istore_n (lv' := [(2, .int (0 : Int32)), (0, .ref (g.2.1 50)), (1, .int x1)]) hx hb dX9_tell_20 rfl hl (Nat.le_of_ble_eq_true rfl) rfl (fun ls hl => ?_)
    exact l21 FUEL x1 (0 : Int32) x1 (σ.2.2.1 56) (σ.2.2.1 57) _ _ _ (lv_sub hl [1, 2, 0] rfl) hG h
  · have h := ite_t c9 h
    refine lv_iconst (v := (-1 : Int32)) hx hb dX9_tell_12 (by decide) ?_
    cases h
    exact gx_iret hx hb hr hlocks hG dX9_tell_13

set_option maxHeartbeats 4000000 in
set_option maxRecDepth 100000 in
theorem c_M_take (l : Launch) (g : GC) (σ : St) (r : Int32) (w_clashP : Int32) (w_clashQ : Int32) (w_far : Int32) (w_heaps : Int32) (w_isMeasured : Int32) (w_length : Int32) (w_isTold : Nat → Int32) (w_tableA : Nat → Int32) (w_tableB : Nat → Int32) (w_tableC : Nat → Int32) (w_toldB : Nat → Int32) (w_toldC : Nat → Int32) (w_wayOf : Nat → Int32) (h : M_take (σ.1 3221) (σ.1 3222) (σ.1 3214) (σ.1 3215) (σ.1 3212) (σ.1 3208) (σ.1 3203) (σ.2.2.1 64) (σ.2.2.1 54) (σ.2.2.1 62) (σ.2.2.1 63) (σ.2.2.1 61) (σ.2.2.1 56) (σ.2.2.1 57) (σ.2.2.1 59) = some (r, w_clashP, w_clashQ, w_far, w_heaps, w_isMeasured, w_length, w_isTold, w_tableA, w_tableB, w_tableC, w_toldB, w_toldC, w_wayOf)) : Cn l g yX9_take (Cond.code yX9_take cX9_take 4 (some .int) :: wG) 4 93 [.ref (g.2.1 50)] σ (some (.int r)) (mkS σ [(3221, w_clashP), (3222, w_clashQ), (3214, w_far), (3215, w_heaps), (3212, w_isMeasured), (3208, w_length)] [] [(64, w_isTold), (62, w_tableA), (63, w_tableB), (61, w_tableC), (56, w_toldB), (57, w_toldC), (59, w_wayOf)] []) := by
  unfold Cn
  refine Met.ofW (cc := cX9_take) (maxL := 4) (ret := (some .int)) (by decide) rfl ?_
  intro p e s m args below meth c s₁ B hml hv
  obtain ⟨hargs, hP0, hK⟩ := hv
  have hx := B.exec
  have hb := B.bytes
  have hr := B.returns
  have hts : ∀ w ∈ wG, w.before args s = true := fun w h => atoms_spec (ws := (Cond.code yX9_take cX9_take 4 (some .int) :: wG)) B.pre w (List.mem_cons_of_mem _ h)
  have hown : s.vm.findClass RX9 = some m.cls := findClass_of_methodNamed B.named
  have hlocks := B.notSynchronized
  have hS9 : CallFix p m c cX9_take 4 s args wG RX9 := ⟨hx, hb, hml, hown, hts⟩
  have hw0 := hts _ mw_4_153
  have hw1 := hts _ mw_4_148
  have hw2 := hts _ mw_4_158
  have hw3 := hts _ mw_4_149
  have hw4 := hts _ mw_4_156
  have hw5 := hts _ mw_5_193
  have hf9 : entryFrame m args 4 = _ := (congrArg (fun a => entryFrame m a 4) hargs).trans (lg_entry_eq m [.ref (g.2.1 50)] 4)
  show Wg p l e 4 93 s m args below meth c g (some (.int r)) (mkS σ [(3221, w_clashP), (3222, w_clashQ), (3214, w_far), (3215, w_heaps), (3212, w_isMeasured), (3208, w_length)] [] [(64, w_isTold), (62, w_tableA), (63, w_tableB), (61, w_tableC), (56, w_toldB), (57, w_toldC), (59, w_wayOf)] []) s.heap [] (entryFrame m args 4)
  rw [hf9]
  have hl := lv_entry ([.ref (g.2.1 50)]) (n := 4) (Nat.le_of_ble_eq_true rfl)
  generalize (lg_sl ([.ref (g.2.1 50)]) ++ List.replicate (4 - (lg_sl ([.ref (g.2.1 50)])).length) Slot.unset).toArray = ls at hl ⊢
  have hl : lv_has ls 4 [(0, .ref (g.2.1 50))] := hl
  have hG : GW g s σ s.heap [] := ⟨hP0, va_S.rf⟩
  have hG : GW g s (mkS σ [(3221, (σ.1 3221)), (3222, (σ.1 3222)), (3214, (σ.1 3214)), (3215, (σ.1 3215)), (3212, (σ.1 3212)), (3208, (σ.1 3208))] [] [(64, (σ.2.2.1 64)), (62, (σ.2.2.1 62)), (63, (σ.2.2.1 63)), (61, (σ.2.2.1 61)), (56, (σ.2.2.1 56)), (57, (σ.2.2.1 57)), (59, (σ.2.2.1 59))] []) s.heap [] := GW_self [3221, 3222, 3214, 3215, 3212, 3208] [] [64, 62, 63, 61, 56, 57, 59] [] hG
  unfold M_take at h
  have n69 : ∀ (k30 : Int32 → Int32 → Int32 → Int32 → Int32 → Int32 → Int32 → Int32 → (Nat → Int32) → (Nat → Int32) → (Nat → Int32) → (Nat → Int32) → (Nat → Int32) → (Nat → Int32) → (Nat → Int32) → Option (Int32 × Int32 × Int32 × Int32 × Int32 × Int32 × Int32 × (Nat → Int32) × (Nat → Int32) × (Nat → Int32) × (Nat → Int32) × (Nat → Int32) × (Nat → Int32) × (Nat → Int32))) (hk30 : ∀ (x1 : Int32) (x2 : Int32) (v_clashP : Int32) (v_clashQ : Int32) (v_far : Int32) (v_heaps : Int32) (v_isMeasured : Int32) (v_length : Int32) (v_isTold : Nat → Int32) (v_tableA : Nat → Int32) (v_tableB : Nat → Int32) (v_tableC : Nat → Int32) (v_toldB : Nat → Int32) (v_toldC : Nat → Int32) (v_wayOf : Nat → Int32) (H : Heap) (locs : List Loc) (ls : Array Slot), lv_has ls 4 [(0, .ref (g.2.1 50)), (1, .int x1), (2, .int x2)] → GW g s (mkS σ [(3221, v_clashP), (3222, v_clashQ), (3214, v_far), (3215, v_heaps), (3212, v_isMeasured), (3208, v_length)] [] [(64, v_isTold), (62, v_tableA), (63, v_tableB), (61, v_tableC), (56, v_toldB), (57, v_toldC), (59, v_wayOf)] []) H locs → k30 x1 x2 v_clashP v_clashQ v_far v_heaps v_isMeasured v_length v_isTold v_tableA v_tableB v_tableC v_toldB v_toldC v_wayOf = some (r, w_clashP, w_clashQ, w_far, w_heaps, w_isMeasured, w_length, w_isTold, w_tableA, w_tableB, w_tableC, w_toldB, w_toldC, w_wayOf) → Wg p l e 4 93 s m args below meth c g (some (.int r)) (mkS σ [(3221, w_clashP), (3222, w_clashQ), (3214, w_far), (3215, w_heaps), (3212, w_isMeasured), (3208, w_length)] [] [(64, w_isTold), (62, w_tableA), (63, w_tableB), (61, w_tableC), (56, w_toldB), (57, w_toldC), (59, w_wayOf)] []) H locs (F0 m 30 ls [])) (x2 : Int32) (t0 : Int32) (v_clashP : Int32) (v_clashQ : Int32) (v_far : Int32) (v_heaps : Int32) (v_isMeasured : Int32) (v_length : Int32) (v_isTold : Nat → Int32) (v_tableA : Nat → Int32) (v_tableB : Nat → Int32) (v_tableC : Nat → Int32) (v_toldB : Nat → Int32) (v_toldC : Nat → Int32) (v_wayOf : Nat → Int32) (H : Heap) (locs : List Loc) (ls : Array Slot), lv_has ls 4 [(0, .ref (g.2.1 50)), (2, .int x2)] → GW g s (mkS σ [(3221, v_clashP), (3222, v_clashQ), (3214, v_far), (3215, v_heaps), (3212, v_isMeasured), (3208, v_length)] [] [(64, v_isTold), (62, v_tableA), (63, v_tableB), (61, v_tableC), (56, v_toldB), (57, v_toldC), (59, v_wayOf)] []) H locs → M_take_n69 k30 x2 t0 v_clashP v_clashQ v_far v_heaps v_isMeasured v_length v_isTold v_tableA v_tableB v_tableC v_toldB v_toldC v_wayOf = some (r, w_clashP, w_clashQ, w_far, w_heaps, w_isMeasured, w_length, w_isTold, w_tableA, w_tableB, w_tableC, w_toldB, w_toldC, w_wayOf) → Wg p l e 4 93 s m args below meth c g (some (.int r)) (mkS σ [(3221, w_clashP), (3222, w_clashQ), (3214, w_far), (3215, w_heaps), (3212, w_isMeasured), (3208, w_length)] [] [(64, w_isTold), (62, w_tableA), (63, w_tableB), (61, w_tableC), (56, w_toldB), (57, w_toldC), (59, w_wayOf)] []) H locs (F0 m 69 ls [.int t0]) := by
    intro k30 hk30 x2 t0 v_clashP v_clashQ v_far v_heaps v_isMeasured v_length v_isTold v_tableA v_tableB v_tableC v_toldB v_toldC v_wayOf H locs ls hl hG h
    unfold M_take_n69 at h
    refine lv_istore_n (lv' := [(1, .int t0), (0, .ref (g.2.1 50)), (2, .int x2)]) hx hb dX9_take_69 rfl hl (Nat.le_of_ble_eq_true rfl) rfl (fun ls hl => ?_)
    refine lv_iinc (v := (x2 + (1 : Int32))) (lv' := [(2, .int (x2 + (1 : Int32))), (1, .int t0), (0, .ref (g.2.1 50))]) hx hb dX9_take_70 hl (k := 2) rfl (congrArg (fun z => x2 + z) (by decide)) (Nat.le_of_ble_eq_true rfl) rfl (fun ls hl => ?_)
    refine lv_goto (tgt := 30) hx hb dX9_take_73 (by decide) ?_
    exact hk30 t0 (x2 + (1 : Int32)) v_clashP v_clashQ v_far v_heaps v_isMeasured v_length v_isTold v_tableA v_tableB v_tableC v_toldB v_toldC v_wayOf _ _ _ (lv_sub hl [2, 1, 0] rfl) hG h
  have n68 : ∀ (k30 : Int32 → Int32 → Int32 → Int32 → Int32 → Int32 → Int32 → Int32 → (Nat → Int32) → (Nat → Int32) → (Nat → Int32) → (Nat → Int32) → (Nat → Int32) → (Nat → Int32) → (Nat → Int32) → Option (Int32 × Int32 × Int32 × Int32 × Int32 × Int32 × Int32 × (Nat → Int32) × (Nat → Int32) × (Nat → Int32) × (Nat → Int32) × (Nat → Int32) × (Nat → Int32) × (Nat → Int32))) (hk30 : ∀ (x1 : Int32) (x2 : Int32) (v_clashP : Int32) (v_clashQ : Int32) (v_far : Int32) (v_heaps : Int32) (v_isMeasured : Int32) (v_length : Int32) (v_isTold : Nat → Int32) (v_tableA : Nat → Int32) (v_tableB : Nat → Int32) (v_tableC : Nat → Int32) (v_toldB : Nat → Int32) (v_toldC : Nat → Int32) (v_wayOf : Nat → Int32) (H : Heap) (locs : List Loc) (ls : Array Slot), lv_has ls 4 [(0, .ref (g.2.1 50)), (1, .int x1), (2, .int x2)] → GW g s (mkS σ [(3221, v_clashP), (3222, v_clashQ), (3214, v_far), (3215, v_heaps), (3212, v_isMeasured), (3208, v_length)] [] [(64, v_isTold), (62, v_tableA), (63, v_tableB), (61, v_tableC), (56, v_toldB), (57, v_toldC), (59, v_wayOf)] []) H locs → k30 x1 x2 v_clashP v_clashQ v_far v_heaps v_isMeasured v_length v_isTold v_tableA v_tableB v_tableC v_toldB v_toldC v_wayOf = some (r, w_clashP, w_clashQ, w_far, w_heaps, w_isMeasured, w_length, w_isTold, w_tableA, w_tableB, w_tableC, w_toldB, w_toldC, w_wayOf) → Wg p l e 4 93 s m args below meth c g (some (.int r)) (mkS σ [(3221, w_clashP), (3222, w_clashQ), (3214, w_far), (3215, w_heaps), (3212, w_isMeasured), (3208, w_length)] [] [(64, w_isTold), (62, w_tableA), (63, w_tableB), (61, w_tableC), (56, w_toldB), (57, w_toldC), (59, w_wayOf)] []) H locs (F0 m 30 ls [])) (x2 : Int32) (v_clashP : Int32) (v_clashQ : Int32) (v_far : Int32) (v_heaps : Int32) (v_isMeasured : Int32) (v_length : Int32) (v_isTold : Nat → Int32) (v_tableA : Nat → Int32) (v_tableB : Nat → Int32) (v_tableC : Nat → Int32) (v_toldB : Nat → Int32) (v_toldC : Nat → Int32) (v_wayOf : Nat → Int32) (H : Heap) (locs : List Loc) (ls : Array Slot), lv_has ls 4 [(0, .ref (g.2.1 50)), (2, .int x2)] → GW g s (mkS σ [(3221, v_clashP), (3222, v_clashQ), (3214, v_far), (3215, v_heaps), (3212, v_isMeasured), (3208, v_length)] [] [(64, v_isTold), (62, v_tableA), (63, v_tableB), (61, v_tableC), (56, v_toldB), (57, v_toldC), (59, v_wayOf)] []) H locs → M_take_n68 k30 x2 v_clashP v_clashQ v_far v_heaps v_isMeasured v_length v_isTold v_tableA v_tableB v_tableC v_toldB v_toldC v_wayOf = some (r, w_clashP, w_clashQ, w_far, w_heaps, w_isMeasured, w_length, w_isTold, w_tableA, w_tableB, w_tableC, w_toldB, w_toldC, w_wayOf) → Wg p l e 4 93 s m args below meth c g (some (.int r)) (mkS σ [(3221, w_clashP), (3222, w_clashQ), (3214, w_far), (3215, w_heaps), (3212, w_isMeasured), (3208, w_length)] [] [(64, w_isTold), (62, w_tableA), (63, w_tableB), (61, w_tableC), (56, w_toldB), (57, w_toldC), (59, w_wayOf)] []) H locs (F0 m 68 ls []) := by
    intro k30 hk30 x2 v_clashP v_clashQ v_far v_heaps v_isMeasured v_length v_isTold v_tableA v_tableB v_tableC v_toldB v_toldC v_wayOf H locs ls hl hG h
    unfold M_take_n68 at h
    refine lv_iconst (v := (0 : Int32)) hx hb dX9_take_68 (by decide) ?_
    exact n69 k30 hk30 x2 (0 : Int32) v_clashP v_clashQ v_far v_heaps v_isMeasured v_length v_isTold v_tableA v_tableB v_tableC v_toldB v_toldC v_wayOf _ _ _ (lv_sub hl [0, 1] rfl) hG h
  have n132 : ∀ (v_clashP : Int32) (v_clashQ : Int32) (v_far : Int32) (v_heaps : Int32) (v_isMeasured : Int32) (v_length : Int32) (v_isTold : Nat → Int32) (v_tableA : Nat → Int32) (v_tableB : Nat → Int32) (v_tableC : Nat → Int32) (v_toldB : Nat → Int32) (v_toldC : Nat → Int32) (v_wayOf : Nat → Int32) (H : Heap) (locs : List Loc) (ls : Array Slot), lv_has ls 4 [(0, .ref (g.2.1 50))] → GW g s (mkS σ [(3221, v_clashP), (3222, v_clashQ), (3214, v_far), (3215, v_heaps), (3212, v_isMeasured), (3208, v_length)] [] [(64, v_isTold), (62, v_tableA), (63, v_tableB), (61, v_tableC), (56, v_toldB), (57, v_toldC), (59, v_wayOf)] []) H locs → M_take_n132 v_clashP v_clashQ v_far v_heaps v_isMeasured v_length v_isTold v_tableA v_tableB v_tableC v_toldB v_toldC v_wayOf = some (r, w_clashP, w_clashQ, w_far, w_heaps, w_isMeasured, w_length, w_isTold, w_tableA, w_tableB, w_tableC, w_toldB, w_toldC, w_wayOf) → Wg p l e 4 93 s m args below meth c g (some (.int r)) (mkS σ [(3221, w_clashP), (3222, w_clashQ), (3214, w_far), (3215, w_heaps), (3212, w_isMeasured), (3208, w_length)] [] [(64, w_isTold), (62, w_tableA), (63, w_tableB), (61, w_tableC), (56, w_toldB), (57, w_toldC), (59, w_wayOf)] []) H locs (F0 m 132 ls []) := by
    intro v_clashP v_clashQ v_far v_heaps v_isMeasured v_length v_isTold v_tableA v_tableB v_tableC v_toldB v_toldC v_wayOf H locs ls hl hG h
    unfold M_take_n132 at h
    refine lv_aload_n hx hb dX9_take_132 rfl (lv_at hl 0 rfl) ?_
    refine gx_get (v := .int v_far) (C := RX9) (T := TX9) (N := 44) hx hb hts mc_X9 hown hK hG (ga_50 g _) rfl 14 (by decide) hw0 rfl rfl dX9_take_133 ?_
    cases h
    exact gx_iret hx hb hr hlocks hG dX9_take_136
  have n94 : ∀ (k94 : Int32 → Int32 → Int32 → Int32 → Int32 → Int32 → Int32 → (Nat → Int32) → (Nat → Int32) → (Nat → Int32) → (Nat → Int32) → (Nat → Int32) → (Nat → Int32) → (Nat → Int32) → Option (Int32 × Int32 × Int32 × Int32 × Int32 × Int32 × Int32 × (Nat → Int32) × (Nat → Int32) × (Nat → Int32) × (Nat → Int32) × (Nat → Int32) × (Nat → Int32) × (Nat → Int32))) (hk94 : ∀ (x3 : Int32) (v_clashP : Int32) (v_clashQ : Int32) (v_far : Int32) (v_heaps : Int32) (v_isMeasured : Int32) (v_length : Int32) (v_isTold : Nat → Int32) (v_tableA : Nat → Int32) (v_tableB : Nat → Int32) (v_tableC : Nat → Int32) (v_toldB : Nat → Int32) (v_toldC : Nat → Int32) (v_wayOf : Nat → Int32) (H : Heap) (locs : List Loc) (ls : Array Slot), lv_has ls 4 [(0, .ref (g.2.1 50)), (3, .int x3)] → GW g s (mkS σ [(3221, v_clashP), (3222, v_clashQ), (3214, v_far), (3215, v_heaps), (3212, v_isMeasured), (3208, v_length)] [] [(64, v_isTold), (62, v_tableA), (63, v_tableB), (61, v_tableC), (56, v_toldB), (57, v_toldC), (59, v_wayOf)] []) H locs → k94 x3 v_clashP v_clashQ v_far v_heaps v_isMeasured v_length v_isTold v_tableA v_tableB v_tableC v_toldB v_toldC v_wayOf = some (r, w_clashP, w_clashQ, w_far, w_heaps, w_isMeasured, w_length, w_isTold, w_tableA, w_tableB, w_tableC, w_toldB, w_toldC, w_wayOf) → Wg p l e 4 93 s m args below meth c g (some (.int r)) (mkS σ [(3221, w_clashP), (3222, w_clashQ), (3214, w_far), (3215, w_heaps), (3212, w_isMeasured), (3208, w_length)] [] [(64, w_isTold), (62, w_tableA), (63, w_tableB), (61, w_tableC), (56, w_toldB), (57, w_toldC), (59, w_wayOf)] []) H locs (F0 m 94 ls [])) (x3 : Int32) (v_clashP : Int32) (v_clashQ : Int32) (v_far : Int32) (v_heaps : Int32) (v_isMeasured : Int32) (v_length : Int32) (v_isTold : Nat → Int32) (v_tableA : Nat → Int32) (v_tableB : Nat → Int32) (v_tableC : Nat → Int32) (v_toldB : Nat → Int32) (v_toldC : Nat → Int32) (v_wayOf : Nat → Int32) (H : Heap) (locs : List Loc) (ls : Array Slot), lv_has ls 4 [(0, .ref (g.2.1 50)), (3, .int x3)] → GW g s (mkS σ [(3221, v_clashP), (3222, v_clashQ), (3214, v_far), (3215, v_heaps), (3212, v_isMeasured), (3208, v_length)] [] [(64, v_isTold), (62, v_tableA), (63, v_tableB), (61, v_tableC), (56, v_toldB), (57, v_toldC), (59, v_wayOf)] []) H locs → M_take_n94 k94 x3 v_clashP v_clashQ v_far v_heaps v_isMeasured v_length v_isTold v_tableA v_tableB v_tableC v_toldB v_toldC v_wayOf = some (r, w_clashP, w_clashQ, w_far, w_heaps, w_isMeasured, w_length, w_isTold, w_tableA, w_tableB, w_tableC, w_toldB, w_toldC, w_wayOf) → Wg p l e 4 93 s m args below meth c g (some (.int r)) (mkS σ [(3221, w_clashP), (3222, w_clashQ), (3214, w_far), (3215, w_heaps), (3212, w_isMeasured), (3208, w_length)] [] [(64, w_isTold), (62, w_tableA), (63, w_tableB), (61, w_tableC), (56, w_toldB), (57, w_toldC), (59, w_wayOf)] []) H locs (F0 m 94 ls []) := by
    intro k94 hk94 x3 v_clashP v_clashQ v_far v_heaps v_isMeasured v_length v_isTold v_tableA v_tableB v_tableC v_toldB v_toldC v_wayOf H locs ls hl hG h
    unfold M_take_n94 at h
    refine lv_iload_n hx hb dX9_take_94 rfl (lv_at hl 1 rfl) ?_
    refine lv_aload_n hx hb dX9_take_95 rfl (lv_at hl 0 rfl) ?_
    refine gx_get (v := .int v_far) (C := RX9) (T := TX9) (N := 44) hx hb hts mc_X9 hown hK hG (ga_50 g _) rfl 14 (by decide) hw0 rfl rfl dX9_take_96 ?_
    refine lv_icmp_gt (tgt := 132) hx hb dX9_take_99 (by decide) (fun c1 => ?_) (fun c1 => ?_)
    · have h := ite_t c1 h
      exact n132 v_clashP v_clashQ v_far v_heaps v_isMeasured v_length v_isTold v_tableA v_tableB v_tableC v_toldB v_toldC v_wayOf _ _ _ (lv_sub hl [0] rfl) hG h
    · have h := ite_f c1 h
      refine lv_aload_n hx hb dX9_take_102 rfl (lv_at hl 0 rfl) ?_
      refine gx_get (v := .ref (g.2.1 56)) (C := RX9) (T := TX9) (N := 44) hx hb hts mc_X9 hown hK hG (ga_50 g _) rfl 9 (by decide) hw1 rfl rfl dX9_take_103 ?_
      refine lv_iload_n hx hb dX9_take_106 rfl (lv_at hl 1 rfl) ?_
      refine lv_aload_n hx hb dX9_take_107 rfl (lv_at hl 0 rfl) ?_
      refine gx_get (v := .ref (g.2.1 63)) (C := RX9) (T := TX9) (N := 44) hx hb hts mc_X9 hown hK hG (ga_50 g _) rfl 19 (by decide) hw2 rfl rfl dX9_take_108 ?_
      refine lv_iload_n hx hb dX9_take_111 rfl (lv_at hl 1 rfl) ?_
      obtain ⟨hg2, h⟩ := gd_some h
      refine gx_iald (f := v_tableB) hx hb hK hG (ga_63 g _) hg2 dX9_take_112 ?_
      obtain ⟨hg3, h⟩ := gd_some h
      refine gx_iast (σ' := (mkS σ [(3221, v_clashP), (3222, v_clashQ), (3214, v_far), (3215, v_heaps), (3212, v_isMeasured), (3208, v_length)] [] [(64, v_isTold), (62, v_tableA), (63, v_tableB), (61, v_tableC), (56, (upd v_toldB (x3.toNatClampNeg) (v_tableB (x3.toNatClampNeg)))), (57, v_toldC), (59, v_wayOf)] [])) (f := v_toldB) hx hb hK hG (ga_56 g _) hg3 ((gs_56 g _ _).trans (congrArg (g_cells g) (mk_c 4 rfl rfl))) dX9_take_113 (fun H locs hG => ?_)
      refine lv_aload_n hx hb dX9_take_114 rfl (lv_at hl 0 rfl) ?_
      refine gx_get (v := .ref (g.2.1 57)) (C := RX9) (T := TX9) (N := 44) hx hb hts mc_X9 hown hK hG (ga_50 g _) rfl 10 (by decide) hw3 rfl rfl dX9_take_115 ?_
      refine lv_iload_n hx hb dX9_take_118 rfl (lv_at hl 1 rfl) ?_
      refine lv_aload_n hx hb dX9_take_119 rfl (lv_at hl 0 rfl) ?_
      refine gx_get (v := .ref (g.2.1 61)) (C := RX9) (T := TX9) (N := 44) hx hb hts mc_X9 hown hK hG (ga_50 g _) rfl 17 (by decide) hw4 rfl rfl dX9_take_120 ?_
      refine lv_iload_n hx hb dX9_take_123 rfl (lv_at hl 1 rfl) ?_
      refine gx_iald (f := v_tableC) hx hb hK hG (ga_61 g _) hg2 dX9_take_124 ?_
      refine gx_iast (σ' := (mkS σ [(3221, v_clashP), (3222, v_clashQ), (3214, v_far), (3215, v_heaps), (3212, v_isMeasured), (3208, v_length)] [] [(64, v_isTold), (62, v_tableA), (63, v_tableB), (61, v_tableC), (56, (upd v_toldB (x3.toNatClampNeg) (v_tableB (x3.toNatClampNeg)))), (57, (upd v_toldC (x3.toNatClampNeg) (v_tableC (x3.toNatClampNeg)))), (59, v_wayOf)] [])) (f := v_toldC) hx hb hK hG (ga_57 g _) hg3 ((gs_57 g _ _).trans (congrArg (g_cells g) (mk_c 5 rfl rfl))) dX9_take_125 (fun H locs hG => ?_)
      refine lv_iinc (v := (x3 + (1 : Int32))) (lv' := [(3, .int (x3 + (1 : Int32))), (0, .ref (g.2.1 50))]) hx hb dX9_take_126 hl (k := 1) rfl (congrArg (fun z => x3 + z) (by decide)) (Nat.le_of_ble_eq_true rfl) rfl (fun ls hl => ?_)
      refine lv_goto (tgt := 94) hx hb dX9_take_129 (by decide) ?_
      exact hk94 (x3 + (1 : Int32)) v_clashP v_clashQ v_far v_heaps v_isMeasured v_length v_isTold v_tableA v_tableB v_tableC (upd v_toldB (x3.toNatClampNeg) (v_tableB (x3.toNatClampNeg))) (upd v_toldC (x3.toNatClampNeg) (v_tableC (x3.toNatClampNeg))) v_wayOf _ _ _ (lv_sub hl [1, 0] rfl) hG h
  have l94 : ∀  (F : Nat) (x3 : Int32) (v_clashP : Int32) (v_clashQ : Int32) (v_far : Int32) (v_heaps : Int32) (v_isMeasured : Int32) (v_length : Int32) (v_isTold : Nat → Int32) (v_tableA : Nat → Int32) (v_tableB : Nat → Int32) (v_tableC : Nat → Int32) (v_toldB : Nat → Int32) (v_toldC : Nat → Int32) (v_wayOf : Nat → Int32) (H : Heap) (locs : List Loc) (ls : Array Slot), lv_has ls 4 [(0, .ref (g.2.1 50)), (3, .int x3)] → GW g s (mkS σ [(3221, v_clashP), (3222, v_clashQ), (3214, v_far), (3215, v_heaps), (3212, v_isMeasured), (3208, v_length)] [] [(64, v_isTold), (62, v_tableA), (63, v_tableB), (61, v_tableC), (56, v_toldB), (57, v_toldC), (59, v_wayOf)] []) H locs → M_take_l94 F x3 v_clashP v_clashQ v_far v_heaps v_isMeasured v_length v_isTold v_tableA v_tableB v_tableC v_toldB v_toldC v_wayOf = some (r, w_clashP, w_clashQ, w_far, w_heaps, w_isMeasured, w_length, w_isTold, w_tableA, w_tableB, w_tableC, w_toldB, w_toldC, w_wayOf) → Wg p l e 4 93 s m args below meth c g (some (.int r)) (mkS σ [(3221, w_clashP), (3222, w_clashQ), (3214, w_far), (3215, w_heaps), (3212, w_isMeasured), (3208, w_length)] [] [(64, w_isTold), (62, w_tableA), (63, w_tableB), (61, w_tableC), (56, w_toldB), (57, w_toldC), (59, w_wayOf)] []) H locs (F0 m 94 ls []) := by
    intro F
    induction F with
    | zero => intro x3 v_clashP v_clashQ v_far v_heaps v_isMeasured v_length v_isTold v_tableA v_tableB v_tableC v_toldB v_toldC v_wayOf H locs ls hl hG h; exact no_some h
    | succ F ih => intro x3 v_clashP v_clashQ v_far v_heaps v_isMeasured v_length v_isTold v_tableA v_tableB v_tableC v_toldB v_toldC v_wayOf H locs ls hl hG h; exact n94 (fun x3 v_clashP v_clashQ v_far v_heaps v_isMeasured v_length v_isTold v_tableA v_tableB v_tableC v_toldB v_toldC v_wayOf => M_take_l94 F x3 v_clashP v_clashQ v_far v_heaps v_isMeasured v_length v_isTold v_tableA v_tableB v_tableC v_toldB v_toldC v_wayOf) ih x3 v_clashP v_clashQ v_far v_heaps v_isMeasured v_length v_isTold v_tableA v_tableB v_tableC v_toldB v_toldC v_wayOf H locs ls hl hG h
  have n76 : ∀ (x1 : Int32) (v_clashP : Int32) (v_clashQ : Int32) (v_far : Int32) (v_heaps : Int32) (v_isMeasured : Int32) (v_length : Int32) (v_isTold : Nat → Int32) (v_tableA : Nat → Int32) (v_tableB : Nat → Int32) (v_tableC : Nat → Int32) (v_toldB : Nat → Int32) (v_toldC : Nat → Int32) (v_wayOf : Nat → Int32) (H : Heap) (locs : List Loc) (ls : Array Slot), lv_has ls 4 [(0, .ref (g.2.1 50)), (1, .int x1)] → GW g s (mkS σ [(3221, v_clashP), (3222, v_clashQ), (3214, v_far), (3215, v_heaps), (3212, v_isMeasured), (3208, v_length)] [] [(64, v_isTold), (62, v_tableA), (63, v_tableB), (61, v_tableC), (56, v_toldB), (57, v_toldC), (59, v_wayOf)] []) H locs → M_take_n76 x1 v_clashP v_clashQ v_far v_heaps v_isMeasured v_length v_isTold v_tableA v_tableB v_tableC v_toldB v_toldC v_wayOf = some (r, w_clashP, w_clashQ, w_far, w_heaps, w_isMeasured, w_length, w_isTold, w_tableA, w_tableB, w_tableC, w_toldB, w_toldC, w_wayOf) → Wg p l e 4 93 s m args below meth c g (some (.int r)) (mkS σ [(3221, w_clashP), (3222, w_clashQ), (3214, w_far), (3215, w_heaps), (3212, w_isMeasured), (3208, w_length)] [] [(64, w_isTold), (62, w_tableA), (63, w_tableB), (61, w_tableC), (56, w_toldB), (57, w_toldC), (59, w_wayOf)] []) H locs (F0 m 76 ls []) := by
    intro x1 v_clashP v_clashQ v_far v_heaps v_isMeasured v_length v_isTold v_tableA v_tableB v_tableC v_toldB v_toldC v_wayOf H locs ls hl hG h
    unfold M_take_n76 at h
    refine lv_iload_n hx hb dX9_take_76 rfl (lv_at hl 1 rfl) ?_
    refine lv_if_ne (tgt := 83) hx hb dX9_take_77 (by decide) (fun c4 => ?_) (fun c4 => ?_)
    · have h := ite_f c4 h
      refine lv_aload_n hx hb dX9_take_83 rfl (lv_at hl 0 rfl) ?_
      refine lv_aload_n hx hb dX9_take_84 rfl (lv_at hl 0 rfl) ?_
      refine gx_get (v := .int v_far) (C := RX9) (T := TX9) (N := 44) hx hb hts mc_X9 hown hK hG (ga_50 g _) rfl 14 (by decide) hw0 rfl rfl dX9_take_85 ?_
      obtain ⟨z5, hc6, h⟩ := bnd_some h
      refine gx_cV (σ' := (mkS σ [(3221, v_clashP), (3222, v_clashQ), (3214, v_far), (3215, v_heaps), (3212, v_isMeasured), (3208, z5.2.1)] [] [(64, v_isTold), (62, v_tableA), (63, v_tableB), (61, v_tableC), (56, z5.2.2.1), (57, z5.2.2.2), (59, v_wayOf)] [])) (r := (some (.int z5.1))) (rest := []) (As := [.int v_far]) hS9 (c_M_tell l g (mkS σ [(3221, v_clashP), (3222, v_clashQ), (3214, v_far), (3215, v_heaps), (3212, v_isMeasured), (3208, v_length)] [] [(64, v_isTold), (62, v_tableA), (63, v_tableB), (61, v_tableC), (56, v_toldB), (57, v_toldC), (59, v_wayOf)] []) v_far z5.1 z5.2.1 z5.2.2.1 z5.2.2.2 hc6) (mk_mk rfl rfl rfl rfl) (cwV 1 hts (gz_V mw_5_203 mw_5_190 mw_5_191 mw_1_11 mw_5_192) rfl rfl rfl hdV_X9_tell ⟨Nat.le_of_ble_eq_true rfl, Nat.le_of_ble_eq_true rfl⟩) hK hG (ga_50 g _) rfl rfl rfl hl.1 rfl (Nat.le_of_ble_eq_true rfl) dX9_take_88 (fun H locs hG => ?_)
      refine W.eq (g2 := F0 m 91 ls [.int z5.1]) rfl ?_
      refine lv_istore_n (lv' := [(2, .int z5.1), (0, .ref (g.2.1 50)), (1, .int x1)]) hx hb dX9_take_91 rfl hl (Nat.le_of_ble_eq_true rfl) rfl (fun ls hl => ?_)
      refine lv_iconst (v := (0 : Int32)) hx hb dX9_take_92 (by decide) ?_
      refine lv_istore_n (lv' := [(3, .int (0 : Int32)), (2, .int z5.1), (0, .ref (g.2.1 50)), (1, .int x1)]) hx hb dX9_take_93 rfl hl (Nat.le_of_ble_eq_true rfl) rfl (fun ls hl => ?_)
      exact l94 FUEL (0 : Int32) v_clashP v_clashQ v_far v_heaps v_isMeasured z5.2.1 v_isTold v_tableA v_tableB v_tableC z5.2.2.1 z5.2.2.2 v_wayOf _ _ _ (lv_sub hl [2, 0] rfl) hG h
    · have h := ite_t c4 h
      refine lv_bipush (v := (-5 : Int32)) hx hb dX9_take_80 (by decide) ?_
      cases h
      exact gx_iret hx hb hr hlocks hG dX9_take_82
  have n30 : ∀ (k30 : Int32 → Int32 → Int32 → Int32 → Int32 → Int32 → Int32 → Int32 → (Nat → Int32) → (Nat → Int32) → (Nat → Int32) → (Nat → Int32) → (Nat → Int32) → (Nat → Int32) → (Nat → Int32) → Option (Int32 × Int32 × Int32 × Int32 × Int32 × Int32 × Int32 × (Nat → Int32) × (Nat → Int32) × (Nat → Int32) × (Nat → Int32) × (Nat → Int32) × (Nat → Int32) × (Nat → Int32))) (hk30 : ∀ (x1 : Int32) (x2 : Int32) (v_clashP : Int32) (v_clashQ : Int32) (v_far : Int32) (v_heaps : Int32) (v_isMeasured : Int32) (v_length : Int32) (v_isTold : Nat → Int32) (v_tableA : Nat → Int32) (v_tableB : Nat → Int32) (v_tableC : Nat → Int32) (v_toldB : Nat → Int32) (v_toldC : Nat → Int32) (v_wayOf : Nat → Int32) (H : Heap) (locs : List Loc) (ls : Array Slot), lv_has ls 4 [(0, .ref (g.2.1 50)), (1, .int x1), (2, .int x2)] → GW g s (mkS σ [(3221, v_clashP), (3222, v_clashQ), (3214, v_far), (3215, v_heaps), (3212, v_isMeasured), (3208, v_length)] [] [(64, v_isTold), (62, v_tableA), (63, v_tableB), (61, v_tableC), (56, v_toldB), (57, v_toldC), (59, v_wayOf)] []) H locs → k30 x1 x2 v_clashP v_clashQ v_far v_heaps v_isMeasured v_length v_isTold v_tableA v_tableB v_tableC v_toldB v_toldC v_wayOf = some (r, w_clashP, w_clashQ, w_far, w_heaps, w_isMeasured, w_length, w_isTold, w_tableA, w_tableB, w_tableC, w_toldB, w_toldC, w_wayOf) → Wg p l e 4 93 s m args below meth c g (some (.int r)) (mkS σ [(3221, w_clashP), (3222, w_clashQ), (3214, w_far), (3215, w_heaps), (3212, w_isMeasured), (3208, w_length)] [] [(64, w_isTold), (62, w_tableA), (63, w_tableB), (61, w_tableC), (56, w_toldB), (57, w_toldC), (59, w_wayOf)] []) H locs (F0 m 30 ls [])) (x1 : Int32) (x2 : Int32) (v_clashP : Int32) (v_clashQ : Int32) (v_far : Int32) (v_heaps : Int32) (v_isMeasured : Int32) (v_length : Int32) (v_isTold : Nat → Int32) (v_tableA : Nat → Int32) (v_tableB : Nat → Int32) (v_tableC : Nat → Int32) (v_toldB : Nat → Int32) (v_toldC : Nat → Int32) (v_wayOf : Nat → Int32) (H : Heap) (locs : List Loc) (ls : Array Slot), lv_has ls 4 [(0, .ref (g.2.1 50)), (1, .int x1), (2, .int x2)] → GW g s (mkS σ [(3221, v_clashP), (3222, v_clashQ), (3214, v_far), (3215, v_heaps), (3212, v_isMeasured), (3208, v_length)] [] [(64, v_isTold), (62, v_tableA), (63, v_tableB), (61, v_tableC), (56, v_toldB), (57, v_toldC), (59, v_wayOf)] []) H locs → M_take_n30 k30 x1 x2 v_clashP v_clashQ v_far v_heaps v_isMeasured v_length v_isTold v_tableA v_tableB v_tableC v_toldB v_toldC v_wayOf = some (r, w_clashP, w_clashQ, w_far, w_heaps, w_isMeasured, w_length, w_isTold, w_tableA, w_tableB, w_tableC, w_toldB, w_toldC, w_wayOf) → Wg p l e 4 93 s m args below meth c g (some (.int r)) (mkS σ [(3221, w_clashP), (3222, w_clashQ), (3214, w_far), (3215, w_heaps), (3212, w_isMeasured), (3208, w_length)] [] [(64, w_isTold), (62, w_tableA), (63, w_tableB), (61, w_tableC), (56, w_toldB), (57, w_toldC), (59, w_wayOf)] []) H locs (F0 m 30 ls []) := by
    intro k30 hk30 x1 x2 v_clashP v_clashQ v_far v_heaps v_isMeasured v_length v_isTold v_tableA v_tableB v_tableC v_toldB v_toldC v_wayOf H locs ls hl hG h
    unfold M_take_n30 at h
    refine lv_iload_n hx hb dX9_take_30 rfl (lv_at hl 2 rfl) ?_
    refine lv_aload_n hx hb dX9_take_31 rfl (lv_at hl 0 rfl) ?_
    refine gx_get (v := .int v_far) (C := RX9) (T := TX9) (N := 44) hx hb hts mc_X9 hown hK hG (ga_50 g _) rfl 14 (by decide) hw0 rfl rfl dX9_take_32 ?_
    refine lv_icmp_gt (tgt := 76) hx hb dX9_take_35 (by decide) (fun c7 => ?_) (fun c7 => ?_)
    · have h := ite_t c7 h
      exact n76 x1 v_clashP v_clashQ v_far v_heaps v_isMeasured v_length v_isTold v_tableA v_tableB v_tableC v_toldB v_toldC v_wayOf _ _ _ (lv_sub hl [0, 1] rfl) hG h
    · have h := ite_f c7 h
      refine lv_iload_n hx hb dX9_take_38 rfl (lv_at hl 1 rfl) ?_
      refine lv_if_eq (tgt := 76) hx hb dX9_take_39 (by decide) (fun c8 => ?_) (fun c8 => ?_)
      · have h := ite_t c8 h
        exact n76 x1 v_clashP v_clashQ v_far v_heaps v_isMeasured v_length v_isTold v_tableA v_tableB v_tableC v_toldB v_toldC v_wayOf _ _ _ (lv_sub hl [0, 1] rfl) hG h
      · have h := ite_f c8 h
        refine lv_aload_n hx hb dX9_take_42 rfl (lv_at hl 0 rfl) ?_
        refine gx_get (v := .ref (g.2.1 63)) (C := RX9) (T := TX9) (N := 44) hx hb hts mc_X9 hown hK hG (ga_50 g _) rfl 19 (by decide) hw2 rfl rfl dX9_take_43 ?_
        refine lv_iload_n hx hb dX9_take_46 rfl (lv_at hl 2 rfl) ?_
        obtain ⟨hg9, h⟩ := gd_some h
        refine gx_iald (f := v_tableB) hx hb hK hG (ga_63 g _) hg9 dX9_take_47 ?_
        refine lv_bipush (v := (20 : Int32)) hx hb dX9_take_48 (by decide) ?_
        refine lv_icmp_gt (tgt := 68) hx hb dX9_take_50 (by decide) (fun c10 => ?_) (fun c10 => ?_)
        · have h := ite_t c10 h
          exact n68 k30 hk30 x2 v_clashP v_clashQ v_far v_heaps v_isMeasured v_length v_isTold v_tableA v_tableB v_tableC v_toldB v_toldC v_wayOf _ _ _ (lv_sub hl [0, 2] rfl) hG h
        · have h := ite_f c10 h
          refine lv_aload_n hx hb dX9_take_53 rfl (lv_at hl 0 rfl) ?_
          refine gx_get (v := .ref (g.2.1 61)) (C := RX9) (T := TX9) (N := 44) hx hb hts mc_X9 hown hK hG (ga_50 g _) rfl 17 (by decide) hw4 rfl rfl dX9_take_54 ?_
          refine lv_iload_n hx hb dX9_take_57 rfl (lv_at hl 2 rfl) ?_
          refine gx_iald (f := v_tableC) hx hb hK hG (ga_61 g _) hg9 dX9_take_58 ?_
          refine lv_bipush (v := (20 : Int32)) hx hb dX9_take_59 (by decide) ?_
          refine lv_icmp_gt (tgt := 68) hx hb dX9_take_61 (by decide) (fun c11 => ?_) (fun c11 => ?_)
          · have h := ite_t c11 h
            exact n68 k30 hk30 x2 v_clashP v_clashQ v_far v_heaps v_isMeasured v_length v_isTold v_tableA v_tableB v_tableC v_toldB v_toldC v_wayOf _ _ _ (lv_sub hl [0, 2] rfl) hG h
          · have h := ite_f c11 h
            refine lv_iconst (v := (1 : Int32)) hx hb dX9_take_64 (by decide) ?_
            refine lv_goto (tgt := 69) hx hb dX9_take_65 (by decide) ?_
            exact n69 k30 hk30 x2 (1 : Int32) v_clashP v_clashQ v_far v_heaps v_isMeasured v_length v_isTold v_tableA v_tableB v_tableC v_toldB v_toldC v_wayOf _ _ _ (lv_sub hl [0, 2] rfl) hG h
  have l30 : ∀  (F : Nat) (x1 : Int32) (x2 : Int32) (v_clashP : Int32) (v_clashQ : Int32) (v_far : Int32) (v_heaps : Int32) (v_isMeasured : Int32) (v_length : Int32) (v_isTold : Nat → Int32) (v_tableA : Nat → Int32) (v_tableB : Nat → Int32) (v_tableC : Nat → Int32) (v_toldB : Nat → Int32) (v_toldC : Nat → Int32) (v_wayOf : Nat → Int32) (H : Heap) (locs : List Loc) (ls : Array Slot), lv_has ls 4 [(0, .ref (g.2.1 50)), (1, .int x1), (2, .int x2)] → GW g s (mkS σ [(3221, v_clashP), (3222, v_clashQ), (3214, v_far), (3215, v_heaps), (3212, v_isMeasured), (3208, v_length)] [] [(64, v_isTold), (62, v_tableA), (63, v_tableB), (61, v_tableC), (56, v_toldB), (57, v_toldC), (59, v_wayOf)] []) H locs → M_take_l30 F x1 x2 v_clashP v_clashQ v_far v_heaps v_isMeasured v_length v_isTold v_tableA v_tableB v_tableC v_toldB v_toldC v_wayOf = some (r, w_clashP, w_clashQ, w_far, w_heaps, w_isMeasured, w_length, w_isTold, w_tableA, w_tableB, w_tableC, w_toldB, w_toldC, w_wayOf) → Wg p l e 4 93 s m args below meth c g (some (.int r)) (mkS σ [(3221, w_clashP), (3222, w_clashQ), (3214, w_far), (3215, w_heaps), (3212, w_isMeasured), (3208, w_length)] [] [(64, w_isTold), (62, w_tableA), (63, w_tableB), (61, w_tableC), (56, w_toldB), (57, w_toldC), (59, w_wayOf)] []) H locs (F0 m 30 ls []) := by
    intro F
    induction F with
    | zero => intro x1 x2 v_clashP v_clashQ v_far v_heaps v_isMeasured v_length v_isTold v_tableA v_tableB v_tableC v_toldB v_toldC v_wayOf H locs ls hl hG h; exact no_some h
    | succ F ih => intro x1 x2 v_clashP v_clashQ v_far v_heaps v_isMeasured v_length v_isTold v_tableA v_tableB v_tableC v_toldB v_toldC v_wayOf H locs ls hl hG h; exact n30 (fun x1 x2 v_clashP v_clashQ v_far v_heaps v_isMeasured v_length v_isTold v_tableA v_tableB v_tableC v_toldB v_toldC v_wayOf => M_take_l30 F x1 x2 v_clashP v_clashQ v_far v_heaps v_isMeasured v_length v_isTold v_tableA v_tableB v_tableC v_toldB v_toldC v_wayOf) ih x1 x2 v_clashP v_clashQ v_far v_heaps v_isMeasured v_length v_isTold v_tableA v_tableB v_tableC v_toldB v_toldC v_wayOf H locs ls hl hG h
  have n27 : ∀ (t0 : Int32) (v_clashP : Int32) (v_clashQ : Int32) (v_far : Int32) (v_heaps : Int32) (v_isMeasured : Int32) (v_length : Int32) (v_isTold : Nat → Int32) (v_tableA : Nat → Int32) (v_tableB : Nat → Int32) (v_tableC : Nat → Int32) (v_toldB : Nat → Int32) (v_toldC : Nat → Int32) (v_wayOf : Nat → Int32) (H : Heap) (locs : List Loc) (ls : Array Slot), lv_has ls 4 [(0, .ref (g.2.1 50))] → GW g s (mkS σ [(3221, v_clashP), (3222, v_clashQ), (3214, v_far), (3215, v_heaps), (3212, v_isMeasured), (3208, v_length)] [] [(64, v_isTold), (62, v_tableA), (63, v_tableB), (61, v_tableC), (56, v_toldB), (57, v_toldC), (59, v_wayOf)] []) H locs → M_take_n27 t0 v_clashP v_clashQ v_far v_heaps v_isMeasured v_length v_isTold v_tableA v_tableB v_tableC v_toldB v_toldC v_wayOf = some (r, w_clashP, w_clashQ, w_far, w_heaps, w_isMeasured, w_length, w_isTold, w_tableA, w_tableB, w_tableC, w_toldB, w_toldC, w_wayOf) → Wg p l e 4 93 s m args below meth c g (some (.int r)) (mkS σ [(3221, w_clashP), (3222, w_clashQ), (3214, w_far), (3215, w_heaps), (3212, w_isMeasured), (3208, w_length)] [] [(64, w_isTold), (62, w_tableA), (63, w_tableB), (61, w_tableC), (56, w_toldB), (57, w_toldC), (59, w_wayOf)] []) H locs (F0 m 27 ls [.int t0]) := by
    intro t0 v_clashP v_clashQ v_far v_heaps v_isMeasured v_length v_isTold v_tableA v_tableB v_tableC v_toldB v_toldC v_wayOf H locs ls hl hG h
    unfold M_take_n27 at h
    refine lv_istore_n (lv' := [(1, .int t0), (0, .ref (g.2.1 50))]) hx hb dX9_take_27 rfl hl (Nat.le_of_ble_eq_true rfl) rfl (fun ls hl => ?_)
    refine lv_iconst (v := (0 : Int32)) hx hb dX9_take_28 (by decide) ?_
    refine lv_istore_n (lv' := [(2, .int (0 : Int32)), (1, .int t0), (0, .ref (g.2.1 50))]) hx hb dX9_take_29 rfl hl (Nat.le_of_ble_eq_true rfl) rfl (fun ls hl => ?_)
    exact l30 FUEL t0 (0 : Int32) v_clashP v_clashQ v_far v_heaps v_isMeasured v_length v_isTold v_tableA v_tableB v_tableC v_toldB v_toldC v_wayOf _ _ _ (lv_sub hl [2, 1, 0] rfl) hG h
  have n26 : ∀ (v_clashP : Int32) (v_clashQ : Int32) (v_far : Int32) (v_heaps : Int32) (v_isMeasured : Int32) (v_length : Int32) (v_isTold : Nat → Int32) (v_tableA : Nat → Int32) (v_tableB : Nat → Int32) (v_tableC : Nat → Int32) (v_toldB : Nat → Int32) (v_toldC : Nat → Int32) (v_wayOf : Nat → Int32) (H : Heap) (locs : List Loc) (ls : Array Slot), lv_has ls 4 [(0, .ref (g.2.1 50))] → GW g s (mkS σ [(3221, v_clashP), (3222, v_clashQ), (3214, v_far), (3215, v_heaps), (3212, v_isMeasured), (3208, v_length)] [] [(64, v_isTold), (62, v_tableA), (63, v_tableB), (61, v_tableC), (56, v_toldB), (57, v_toldC), (59, v_wayOf)] []) H locs → M_take_n26 v_clashP v_clashQ v_far v_heaps v_isMeasured v_length v_isTold v_tableA v_tableB v_tableC v_toldB v_toldC v_wayOf = some (r, w_clashP, w_clashQ, w_far, w_heaps, w_isMeasured, w_length, w_isTold, w_tableA, w_tableB, w_tableC, w_toldB, w_toldC, w_wayOf) → Wg p l e 4 93 s m args below meth c g (some (.int r)) (mkS σ [(3221, w_clashP), (3222, w_clashQ), (3214, w_far), (3215, w_heaps), (3212, w_isMeasured), (3208, w_length)] [] [(64, w_isTold), (62, w_tableA), (63, w_tableB), (61, w_tableC), (56, w_toldB), (57, w_toldC), (59, w_wayOf)] []) H locs (F0 m 26 ls []) := by
    intro v_clashP v_clashQ v_far v_heaps v_isMeasured v_length v_isTold v_tableA v_tableB v_tableC v_toldB v_toldC v_wayOf H locs ls hl hG h
    unfold M_take_n26 at h
    refine lv_iconst (v := (0 : Int32)) hx hb dX9_take_26 (by decide) ?_
    exact n27 (0 : Int32) v_clashP v_clashQ v_far v_heaps v_isMeasured v_length v_isTold v_tableA v_tableB v_tableC v_toldB v_toldC v_wayOf _ _ _ (lv_sub hl [0] rfl) hG h
  refine lv_aload_n hx hb dX9_take_0 rfl (lv_at hl 0 rfl) ?_
  obtain ⟨z12, hc13, h⟩ := bnd_some h
  refine gx_cV (σ' := (mkS σ [(3221, z12.2.1), (3222, z12.2.2.1), (3214, z12.2.2.2.1), (3215, z12.2.2.2.2.1), (3212, z12.2.2.2.2.2.1), (3208, (σ.1 3208))] [] [(64, z12.2.2.2.2.2.2.1), (62, z12.2.2.2.2.2.2.2.1), (63, z12.2.2.2.2.2.2.2.2.1), (61, z12.2.2.2.2.2.2.2.2.2.1), (56, (σ.2.2.1 56)), (57, (σ.2.2.1 57)), (59, z12.2.2.2.2.2.2.2.2.2.2)] [])) (r := (some (.int z12.1))) (rest := []) (As := []) hS9 (c_M_isLike l g (mkS σ [(3221, (σ.1 3221)), (3222, (σ.1 3222)), (3214, (σ.1 3214)), (3215, (σ.1 3215)), (3212, (σ.1 3212)), (3208, (σ.1 3208))] [] [(64, (σ.2.2.1 64)), (62, (σ.2.2.1 62)), (63, (σ.2.2.1 63)), (61, (σ.2.2.1 61)), (56, (σ.2.2.1 56)), (57, (σ.2.2.1 57)), (59, (σ.2.2.1 59))] []) z12.1 z12.2.1 z12.2.2.1 z12.2.2.2.1 z12.2.2.2.2.1 z12.2.2.2.2.2.1 z12.2.2.2.2.2.2.1 z12.2.2.2.2.2.2.2.1 z12.2.2.2.2.2.2.2.2.1 z12.2.2.2.2.2.2.2.2.2.1 z12.2.2.2.2.2.2.2.2.2.2 hc13) (mk_mk rfl rfl rfl rfl) (cwV 0 hts (gz_V mw_5_165 mw_5_167 ms_4_4 mw_1_11 mw_5_168) rfl rfl rfl hdV_X9_isLike ⟨Nat.le_of_ble_eq_true rfl, Nat.le_of_ble_eq_true rfl⟩) hK hG (ga_50 g _) rfl rfl rfl hl.1 rfl (Nat.le_of_ble_eq_true rfl) dX9_take_1 (fun H locs hG => ?_)
  refine W.eq (g2 := F0 m 4 ls [.int z12.1]) rfl ?_
  refine lv_if_eq (tgt := 26) hx hb dX9_take_4 (by decide) (fun c14 => ?_) (fun c14 => ?_)
  · have h := ite_t c14 h
    exact n26 z12.2.1 z12.2.2.1 z12.2.2.2.1 z12.2.2.2.2.1 z12.2.2.2.2.2.1 (σ.1 3208) z12.2.2.2.2.2.2.1 z12.2.2.2.2.2.2.2.1 z12.2.2.2.2.2.2.2.2.1 z12.2.2.2.2.2.2.2.2.2.1 (σ.2.2.1 56) (σ.2.2.1 57) z12.2.2.2.2.2.2.2.2.2.2 _ _ _ (lv_sub hl [0] rfl) hG h
  · have h := ite_f c14 h
    refine lv_aload_n hx hb dX9_take_7 rfl (lv_at hl 0 rfl) ?_
    refine gx_get (v := .int z12.2.2.2.1) (C := RX9) (T := TX9) (N := 44) hx hb hts mc_X9 hown hK hG (ga_50 g _) rfl 14 (by decide) hw0 rfl rfl dX9_take_8 ?_
    refine lv_i2l hx hb dX9_take_11 rfl ?_
    refine lv_lconst (v := (1 : Int64)) hx hb dX9_take_12 (by decide) ?_
    refine lv_ldc2 hx hb hown hw5 dX9_take_13 ?_
    obtain ⟨z15, hc16, h⟩ := bnd_some h
    refine gx_cS (σ' := (mkS σ [(3221, z12.2.1), (3222, z12.2.2.1), (3214, z12.2.2.2.1), (3215, z12.2.2.2.2.1), (3212, z12.2.2.2.2.2.1), (3208, (σ.1 3208))] [] [(64, z12.2.2.2.2.2.2.1), (62, z12.2.2.2.2.2.2.2.1), (63, z12.2.2.2.2.2.2.2.2.1), (61, z12.2.2.2.2.2.2.2.2.2.1), (56, (σ.2.2.1 56)), (57, (σ.2.2.1 57)), (59, z12.2.2.2.2.2.2.2.2.2.2)] [])) (r := (some (.int z15))) (rest := []) (As := [.long (z12.2.2.2.1.toInt64), .long (1 : Int64), .long (5 : Int64)]) hS9 (c_M_in l g (mkS σ [(3221, z12.2.1), (3222, z12.2.2.1), (3214, z12.2.2.2.1), (3215, z12.2.2.2.2.1), (3212, z12.2.2.2.2.2.1), (3208, (σ.1 3208))] [] [(64, z12.2.2.2.2.2.2.1), (62, z12.2.2.2.2.2.2.2.1), (63, z12.2.2.2.2.2.2.2.2.1), (61, z12.2.2.2.2.2.2.2.2.2.1), (56, (σ.2.2.1 56)), (57, (σ.2.2.1 57)), (59, z12.2.2.2.2.2.2.2.2.2.2)] []) (z12.2.2.2.1.toInt64) (1 : Int64) (5 : Int64) z15 hc16) rfl (va_cwS 3 hts (gz_S mw_5_41 mw_5_42 mw_1_11 mw_5_43) rfl rfl rfl hdS_X9_in ⟨Nat.le_of_ble_eq_true rfl, Nat.le_of_ble_eq_true rfl⟩) hK hG rfl hl.1 rfl (Nat.le_of_ble_eq_true rfl) dX9_take_16 (fun H locs hG => ?_)
    refine W.eq (g2 := F0 m 19 ls [.int z15]) rfl ?_
    refine lv_if_eq (tgt := 26) hx hb dX9_take_19 (by decide) (fun c17 => ?_) (fun c17 => ?_)
    · have h := ite_t c17 h
      exact n26 z12.2.1 z12.2.2.1 z12.2.2.2.1 z12.2.2.2.2.1 z12.2.2.2.2.2.1 (σ.1 3208) z12.2.2.2.2.2.2.1 z12.2.2.2.2.2.2.2.1 z12.2.2.2.2.2.2.2.2.1 z12.2.2.2.2.2.2.2.2.2.1 (σ.2.2.1 56) (σ.2.2.1 57) z12.2.2.2.2.2.2.2.2.2.2 _ _ _ (lv_sub hl [0] rfl) hG h
    · have h := ite_f c17 h
      refine lv_iconst (v := (1 : Int32)) hx hb dX9_take_22 (by decide) ?_
      refine lv_goto (tgt := 27) hx hb dX9_take_23 (by decide) ?_
      exact n27 (1 : Int32) z12.2.1 z12.2.2.1 z12.2.2.2.1 z12.2.2.2.2.1 z12.2.2.2.2.2.1 (σ.1 3208) z12.2.2.2.2.2.2.1 z12.2.2.2.2.2.2.2.1 z12.2.2.2.2.2.2.2.2.1 z12.2.2.2.2.2.2.2.2.2.1 (σ.2.2.1 56) (σ.2.2.1 57) z12.2.2.2.2.2.2.2.2.2.2 _ _ _ (lv_sub hl [0] rfl) hG h

