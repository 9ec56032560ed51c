/-! THE CLAIM OUT OF ONE WALK OF THE LAW'S BODY. Your part is whole_start (and what it stands on); all else here is the same for every law, but numbers. -/
def R_law : String := "LikeNetsLaw"
def lw_P (b : Addr) (xs : List Int32) (args : Array Value) (s : State) : Prop := args = #[.ref b] ∧ s.IntsAt b xs ∧ xs.length ≤ 2560 ∧ (Jvm.Cond.and given_1 narrow_1).before args s = true
def lw_Q (_ : Array Value) (s : State) (o : Outcome) (t : State) : Prop := o = .returned (some (.int 1)) ∧ Framed s o t [] 600000 7302250
def lw_Z (below : List Frame) (a : Array Value) (s : State) : State → Prop := fun t => ∃ o, t.status = .running ∧ Ended t below o ∧ lw_Q a s o t
/-- the law's own end, with 1 on the stack, nothing written that was there before, its room as the claim has it -/
theorem lw_ret {p : Program} {l : Launch} {e : Env} {s : State} {m : MethodId} {below : List Frame} {meth : Method} {c : Code} {b : Nat} (hx : p.tables.exec = Jvm.exec) (hb : c.code = code) (hr : meth.sig.returnType = ret) (hlocks : meth.locks = false) {pc : Nat} {H : Heap} {ls : Array Slot} (hdg : decode code pc = .ok (.ireturn, 1)) : W p l e room_1 s m #[Value.ref b] below meth c H [] 600000 7302250 (lw_Z below #[Value.ref b] s) (F0 m pc ls [.int 1]) := by
  intro T hT X
  obtain ⟨fs, hret, hrun, hended, hW, hframe⟩ := X.leave (v := some (.int 1)) (hlocks := hlocks) (fun h => by rw [hr] at h; cases h)
  have hmeth' : T.vm.method? m = some meth := X.method'
  refine ⟨T.setFrames fs, ?_, .returned (some (.int 1)), hrun, hended, rfl, ⟨_, rfl⟩, hW, hframe⟩
  jvm_step X.here [X.here.top, hx, hb, hdg, hmeth', hr, ret, narrow_b1]
  (try refine ⟨rfl, ?_⟩); (try refine ⟨rfl, ?_⟩)
  first | (intro acts; rw [hret _ acts rfl rfl rfl]) | rw [hret _ _ rfl rfl rfl]
  exact Steps.refl _
/-- what holds at the law's entry: the machine, the code, the tables' words (any of lw_tbl by 'hts w (by decide +kernel)'), the script of L ints xs at the cell b, what the Statement gives of the start (any of its parts by flat_of_before) -/
def lw_At (p : Program) (s : State) (m : MethodId) (meth : Method) (c : Code) (b L : Nat) (xs : Nat → Int32) : Prop :=
  p.tables.exec = Jvm.exec ∧ c.code = code ∧ meth.sig.returnType = ret ∧ c.maxLocals = 4 ∧ s.vm.findClass R_law = some m.cls ∧ (∀ w ∈ lw_tbl, w.before #[Value.ref b] s = true) ∧ va_X b L xs s s.heap ∧ b < s.heap.size ∧ meth.locks = false ∧ (Jvm.Cond.and given_1 narrow_1).before #[Value.ref b] s = true
def eL_sheet (x1 : Int32) (x2 : Int32) (x3 : Int32) (σ : St) (r : Int32) (σ' : St) : Prop :=
  (x1 = 0 ∧ ∃ (w0 : Int32) (w1 : Int32) (w2 : Int32) (w3 : Nat → Int32), LN_sheet_s0 x2 x3 (σ.1 131) (σ.1 130) (σ.1 129) (σ.2.2.1 3) = some (r, w0, w1, w2, w3) ∧ σ' = (mkS σ [(131, w0), (130, w1), (129, w2)] [] [(3, w3)] [])) ∨
  (x1 = 1 ∧ ∃ (w0 : Int32) (w1 : Int32) (w2 : Int32) (w3 : Nat → Int32), LN_sheet_s1 x2 x3 (σ.1 259) (σ.1 258) (σ.1 257) (σ.2.2.1 5) = some (r, w0, w1, w2, w3) ∧ σ' = (mkS σ [(259, w0), (258, w1), (257, w2)] [] [(5, w3)] [])) ∨
  (x1 = 2 ∧ ∃ (w0 : Int32) (w1 : Int32) (w2 : Int32) (w3 : Nat → Int32), LN_sheet_s2 x2 x3 (σ.1 387) (σ.1 386) (σ.1 385) (σ.2.2.1 7) = some (r, w0, w1, w2, w3) ∧ σ' = (mkS σ [(387, w0), (386, w1), (385, w2)] [] [(7, w3)] [])) ∨
  (x1 = 3 ∧ ∃ (w0 : Int32) (w1 : Int32) (w2 : Int32) (w3 : Nat → Int32), LN_sheet_s3 x2 x3 (σ.1 515) (σ.1 514) (σ.1 513) (σ.2.2.1 9) = some (r, w0, w1, w2, w3) ∧ σ' = (mkS σ [(515, w0), (514, w1), (513, w2)] [] [(9, w3)] [])) ∨
  ((¬ x1 = 0 ∧ ¬ x1 = 1 ∧ ¬ x1 = 2 ∧ ¬ x1 = 3) ∧ LN_sheet_so x1 x2 x3 = some r ∧ σ' = σ)
theorem eL_sheet_cn {x1 x2 x3 : Int32} {σ : St} {r : Int32} {σ' : St} (h : eL_sheet x1 x2 x3 σ r σ') (l : Launch) (g : GC) : Cn l g yX8_sheet (Cond.code yX8_sheet cX8_sheet 4 (some .int) :: wG) 2 45 [.ref (g.2.1 0), .int x1, .int x2, .int x3] σ (some (.int r)) σ' := by
  rcases h with ⟨rfl, w0, w1, w2, w3, h1, rfl⟩ | ⟨rfl, w0, w1, w2, w3, h1, rfl⟩ | ⟨rfl, w0, w1, w2, w3, h1, rfl⟩ | ⟨rfl, w0, w1, w2, w3, h1, rfl⟩ | ⟨-, h1, rfl⟩
  · exact c_LN_sheet_s0 l g _ x2 x3 r w0 w1 w2 w3 h1
  · exact c_LN_sheet_s1 l g _ x2 x3 r w0 w1 w2 w3 h1
  · exact c_LN_sheet_s2 l g _ x2 x3 r w0 w1 w2 w3 h1
  · exact c_LN_sheet_s3 l g _ x2 x3 r w0 w1 w2 w3 h1
  · exact c_LN_sheet_so l g _ x1 x2 x3 r h1
def eM_sheet (x1 : Int32) (x2 : Int32) (x3 : Int32) (σ : St) (r : Int32) (σ' : St) : Prop :=
  ∃ (w0 : Nat → Int32) (w1 : Nat → Int32) (w2 : Nat → Int32), M_sheet x1 x2 x3 (σ.2.2.1 53) (σ.2.2.1 51) (σ.2.2.1 52) = some (r, w0, w1, w2) ∧ σ' = (mkS σ [] [] [(53, w0), (51, w1), (52, w2)] [])
theorem eM_sheet_cn {x1 x2 x3 : Int32} {σ : St} {r : Int32} {σ' : St} (h : eM_sheet x1 x2 x3 σ r σ') (l : Launch) (g : GC) : Cn l g yX9_sheet (Cond.code yX9_sheet cX9_sheet 5 (some .int) :: wG) 2 45 [.ref (g.2.1 50), .int x1, .int x2, .int x3] σ (some (.int r)) σ' := by
  obtain ⟨w0, w1, w2, h1, rfl⟩ := h
  exact c_M_sheet l g _ x1 x2 x3 r w0 w1 w2 h1
def eL_cell (x1 : Int32) (x2 : Int32) (x3 : Int32) (σ : St) (r : Int32) (σ' : St) : Prop :=
  (x1 = 0 ∧ ∃ (w0 : Nat → Int32), LN_cell_s0 x2 x3 (σ.1 131) (σ.1 130) (σ.1 129) (σ.2.2.1 3) = some (r, w0) ∧ σ' = (mkS σ [] [] [(3, w0)] [])) ∨
  (x1 = 1 ∧ ∃ (w0 : Nat → Int32), LN_cell_s1 x2 x3 (σ.1 259) (σ.1 258) (σ.1 257) (σ.2.2.1 5) = some (r, w0) ∧ σ' = (mkS σ [] [] [(5, w0)] [])) ∨
  (x1 = 2 ∧ ∃ (w0 : Nat → Int32), LN_cell_s2 x2 x3 (σ.1 387) (σ.1 386) (σ.1 385) (σ.2.2.1 7) = some (r, w0) ∧ σ' = (mkS σ [] [] [(7, w0)] [])) ∨
  (x1 = 3 ∧ ∃ (w0 : Nat → Int32), LN_cell_s3 x2 x3 (σ.1 515) (σ.1 514) (σ.1 513) (σ.2.2.1 9) = some (r, w0) ∧ σ' = (mkS σ [] [] [(9, w0)] [])) ∨
  ((¬ x1 = 0 ∧ ¬ x1 = 1 ∧ ¬ x1 = 2 ∧ ¬ x1 = 3) ∧ LN_cell_so x1 x2 x3 = some r ∧ σ' = σ)
theorem eL_cell_cn {x1 x2 x3 : Int32} {σ : St} {r : Int32} {σ' : St} (h : eL_cell x1 x2 x3 σ r σ') (l : Launch) (g : GC) : Cn l g yX8_cell (Cond.code yX8_cell cX8_cell 4 (some .int) :: wG) 1 22 [.ref (g.2.1 0), .int x1, .int x2, .int x3] σ (some (.int r)) σ' := by
  rcases h with ⟨rfl, w0, h1, rfl⟩ | ⟨rfl, w0, h1, rfl⟩ | ⟨rfl, w0, h1, rfl⟩ | ⟨rfl, w0, h1, rfl⟩ | ⟨-, h1, rfl⟩
  · exact c_LN_cell_s0 l g _ x2 x3 r w0 h1
  · exact c_LN_cell_s1 l g _ x2 x3 r w0 h1
  · exact c_LN_cell_s2 l g _ x2 x3 r w0 h1
  · exact c_LN_cell_s3 l g _ x2 x3 r w0 h1
  · exact c_LN_cell_so l g _ x1 x2 x3 r h1
def eM_cell (x1 : Int32) (x2 : Int32) (x3 : Int32) (σ : St) (r : Int32) (σ' : St) : Prop :=
  ∃ (w0 : Nat → Int32), M_cell x1 x2 x3 (σ.2.2.1 53) (σ.2.2.1 51) (σ.2.2.1 52) = some (r, w0) ∧ σ' = (mkS σ [] [] [(53, w0)] [])
theorem eM_cell_cn {x1 x2 x3 : Int32} {σ : St} {r : Int32} {σ' : St} (h : eM_cell x1 x2 x3 σ r σ') (l : Launch) (g : GC) : Cn l g yX9_cell (Cond.code yX9_cell cX9_cell 4 (some .int) :: wG) 2 45 [.ref (g.2.1 50), .int x1, .int x2, .int x3] σ (some (.int r)) σ' := by
  obtain ⟨w0, h1, rfl⟩ := h
  exact c_M_cell l g _ x1 x2 x3 r w0 h1
def eL_lose (x1 : Int32) (σ : St) (r : Int32) (σ' : St) : Prop :=
  (x1 = 0 ∧ ∃ (w0 : Int32), LN_lose_s0 (σ.1 129) = some (r, w0) ∧ σ' = (mkS σ [(129, w0)] [] [] [])) ∨
  (x1 = 1 ∧ ∃ (w0 : Int32), LN_lose_s1 (σ.1 257) = some (r, w0) ∧ σ' = (mkS σ [(257, w0)] [] [] [])) ∨
  (x1 = 2 ∧ ∃ (w0 : Int32), LN_lose_s2 (σ.1 385) = some (r, w0) ∧ σ' = (mkS σ [(385, w0)] [] [] [])) ∨
  (x1 = 3 ∧ ∃ (w0 : Int32), LN_lose_s3 (σ.1 513) = some (r, w0) ∧ σ' = (mkS σ [(513, w0)] [] [] [])) ∨
  ((¬ x1 = 0 ∧ ¬ x1 = 1 ∧ ¬ x1 = 2 ∧ ¬ x1 = 3) ∧ LN_lose_so x1 = some r ∧ σ' = σ)
theorem eL_lose_cn {x1 : Int32} {σ : St} {r : Int32} {σ' : St} (h : eL_lose x1 σ r σ') (l : Launch) (g : GC) : Cn l g yX8_lose (Cond.code yX8_lose cX8_lose 2 (some .int) :: wG) 1 20 [.ref (g.2.1 0), .int x1] σ (some (.int r)) σ' := by
  rcases h with ⟨rfl, w0, h1, rfl⟩ | ⟨rfl, w0, h1, rfl⟩ | ⟨rfl, w0, h1, rfl⟩ | ⟨rfl, w0, h1, rfl⟩ | ⟨-, h1, rfl⟩
  · exact c_LN_lose_s0 l g _ r w0 h1
  · exact c_LN_lose_s1 l g _ r w0 h1
  · exact c_LN_lose_s2 l g _ r w0 h1
  · exact c_LN_lose_s3 l g _ r w0 h1
  · exact c_LN_lose_so l g _ x1 r h1
def eM_lose (x1 : Int32) (σ : St) (r : Int32) (σ' : St) : Prop :=
  ∃ (w0 : Nat → Int32), M_lose x1 (σ.2.2.1 52) = some (r, w0) ∧ σ' = (mkS σ [] [] [(52, w0)] [])
theorem eM_lose_cn {x1 : Int32} {σ : St} {r : Int32} {σ' : St} (h : eM_lose x1 σ r σ') (l : Launch) (g : GC) : Cn l g yX9_lose (Cond.code yX9_lose cX9_lose 2 (some .int) :: wG) 2 45 [.ref (g.2.1 50), .int x1] σ (some (.int r)) σ' := by
  obtain ⟨w0, h1, rfl⟩ := h
  exact c_M_lose l g _ x1 r w0 h1
def eL_net (x1 : Int32) (σ : St) (r : Int32) (σ' : St) : Prop :=
  ∃ (w0 : Int32) (w1 : Int32) (w2 : Int32) (w3 : Int32) (w4 : Int32) (w5 : Nat → Int32), LN_net x1 (σ.1 1539) (σ.1 641) (σ.1 2632) (σ.1 2372) (σ.1 1283) (σ.2.2.1 11) = some (r, w0, w1, w2, w3, w4, w5) ∧ σ' = (mkS σ [(1539, w0), (641, w1), (2632, w2), (2372, w3), (1283, w4)] [] [(11, w5)] [])
theorem eL_net_cn {x1 : Int32} {σ : St} {r : Int32} {σ' : St} (h : eL_net x1 σ r σ') (l : Launch) (g : GC) : Cn l g yX8_net (Cond.code yX8_net cX8_net 2 (some .int) :: wG) 2 44 [.ref (g.2.1 0), .int x1] σ (some (.int r)) σ' := by
  obtain ⟨w0, w1, w2, w3, w4, w5, h1, rfl⟩ := h
  exact c_LN_net l g _ x1 r w0 w1 w2 w3 w4 w5 h1
def eM_net (x1 : Int32) (σ : St) (r : Int32) (σ' : St) : Prop :=
  ∃ (w0 : Int32) (w1 : Int32) (w2 : Int32) (w3 : Nat → Int32), M_net x1 (σ.1 3238) (σ.1 3212) (σ.1 3203) (σ.2.2.1 54) = some (r, w0, w1, w2, w3) ∧ σ' = (mkS σ [(3238, w0), (3212, w1), (3203, w2)] [] [(54, w3)] [])
theorem eM_net_cn {x1 : Int32} {σ : St} {r : Int32} {σ' : St} (h : eM_net x1 σ r σ') (l : Launch) (g : GC) : Cn l g yX9_net (Cond.code yX9_net cX9_net 2 (some .int) :: wG) 1 25 [.ref (g.2.1 50), .int x1] σ (some (.int r)) σ' := by
  obtain ⟨w0, w1, w2, w3, h1, rfl⟩ := h
  exact c_M_net l g _ x1 r w0 w1 w2 w3 h1
def eL_road (x1 : Int32) (x2 : Int32) (x3 : Int32) (σ : St) (r : Int32) (σ' : St) : Prop :=
  ∃ (w0 : Int32) (w1 : Int32) (w2 : Int32) (w3 : Int32) (w4 : Nat → Int32), LN_road x1 x2 x3 (σ.1 1539) (σ.1 641) (σ.1 2632) (σ.1 2372) (σ.1 1283) (σ.2.2.1 11) = some (r, w0, w1, w2, w3, w4) ∧ σ' = (mkS σ [(1539, w0), (2632, w1), (2372, w2), (1283, w3)] [] [(11, w4)] [])
theorem eL_road_cn {x1 x2 x3 : Int32} {σ : St} {r : Int32} {σ' : St} (h : eL_road x1 x2 x3 σ r σ') (l : Launch) (g : GC) : Cn l g yX8_road (Cond.code yX8_road cX8_road 4 (some .int) :: wG) 3 65 [.ref (g.2.1 0), .int x1, .int x2, .int x3] σ (some (.int r)) σ' := by
  obtain ⟨w0, w1, w2, w3, w4, h1, rfl⟩ := h
  exact c_LN_road l g _ x1 x2 x3 r w0 w1 w2 w3 w4 h1
def eM_road (x1 : Int32) (x2 : Int32) (x3 : Int32) (σ : St) (r : Int32) (σ' : St) : Prop :=
  ∃ (w0 : Int32) (w1 : Int32) (w2 : Nat → Int32), M_road x1 x2 x3 (σ.1 3238) (σ.1 3212) (σ.1 3203) (σ.2.2.1 54) = some (r, w0, w1, w2) ∧ σ' = (mkS σ [(3238, w0), (3212, w1)] [] [(54, w2)] [])
theorem eM_road_cn {x1 x2 x3 : Int32} {σ : St} {r : Int32} {σ' : St} (h : eM_road x1 x2 x3 σ r σ') (l : Launch) (g : GC) : Cn l g yX9_road (Cond.code yX9_road cX9_road 4 (some .int) :: wG) 2 46 [.ref (g.2.1 50), .int x1, .int x2, .int x3] σ (some (.int r)) σ' := by
  obtain ⟨w0, w1, w2, h1, rfl⟩ := h
  exact c_M_road l g _ x1 x2 x3 r w0 w1 w2 h1
def eL_load (x1 : Int32) (x2 : Int32) (x3 : Int32) (σ : St) (r : Int32) (σ' : St) : Prop :=
  (x1 = 0 ∧ ∃ (w0 : Int32) (w1 : Int32) (w2 : Int32) (w3 : Int32) (w4 : Nat → Int32), LN_load_s0 x2 x3 (σ.1 1539) (σ.1 641) (σ.1 2632) (σ.1 2372) (σ.1 131) (σ.1 129) (σ.1 1283) (σ.2.2.1 11) (σ.2.2.1 3) = some (r, w0, w1, w2, w3, w4) ∧ σ' = (mkS σ [(1539, w0), (2632, w1), (2372, w2), (1283, w3)] [] [(11, w4)] [])) ∨
  (x1 = 1 ∧ ∃ (w0 : Int32) (w1 : Int32) (w2 : Int32) (w3 : Int32) (w4 : Nat → Int32), LN_load_s1 x2 x3 (σ.1 1539) (σ.1 641) (σ.1 2632) (σ.1 2372) (σ.1 259) (σ.1 257) (σ.1 1283) (σ.2.2.1 11) (σ.2.2.1 5) = some (r, w0, w1, w2, w3, w4) ∧ σ' = (mkS σ [(1539, w0), (2632, w1), (2372, w2), (1283, w3)] [] [(11, w4)] [])) ∨
  (x1 = 2 ∧ ∃ (w0 : Int32) (w1 : Int32) (w2 : Int32) (w3 : Int32) (w4 : Nat → Int32), LN_load_s2 x2 x3 (σ.1 1539) (σ.1 641) (σ.1 2632) (σ.1 2372) (σ.1 387) (σ.1 385) (σ.1 1283) (σ.2.2.1 11) (σ.2.2.1 7) = some (r, w0, w1, w2, w3, w4) ∧ σ' = (mkS σ [(1539, w0), (2632, w1), (2372, w2), (1283, w3)] [] [(11, w4)] [])) ∨
  (x1 = 3 ∧ ∃ (w0 : Int32) (w1 : Int32) (w2 : Int32) (w3 : Int32) (w4 : Nat → Int32), LN_load_s3 x2 x3 (σ.1 1539) (σ.1 641) (σ.1 2632) (σ.1 2372) (σ.1 515) (σ.1 513) (σ.1 1283) (σ.2.2.1 11) (σ.2.2.1 9) = some (r, w0, w1, w2, w3, w4) ∧ σ' = (mkS σ [(1539, w0), (2632, w1), (2372, w2), (1283, w3)] [] [(11, w4)] [])) ∨
  ((¬ x1 = 0 ∧ ¬ x1 = 1 ∧ ¬ x1 = 2 ∧ ¬ x1 = 3) ∧ LN_load_so x1 x2 x3 = some r ∧ σ' = σ)
theorem eL_load_cn {x1 x2 x3 : Int32} {σ : St} {r : Int32} {σ' : St} (h : eL_load x1 x2 x3 σ r σ') (l : Launch) (g : GC) : Cn l g yX8_load (Cond.code yX8_load cX8_load 7 (some .int) :: wG) 3 68 [.ref (g.2.1 0), .int x1, .int x2, .int x3] σ (some (.int r)) σ' := by
  rcases h with ⟨rfl, w0, w1, w2, w3, w4, h1, rfl⟩ | ⟨rfl, w0, w1, w2, w3, w4, h1, rfl⟩ | ⟨rfl, w0, w1, w2, w3, w4, h1, rfl⟩ | ⟨rfl, w0, w1, w2, w3, w4, h1, rfl⟩ | ⟨-, h1, rfl⟩
  · exact c_LN_load_s0 l g _ x2 x3 r w0 w1 w2 w3 w4 h1
  · exact c_LN_load_s1 l g _ x2 x3 r w0 w1 w2 w3 w4 h1
  · exact c_LN_load_s2 l g _ x2 x3 r w0 w1 w2 w3 w4 h1
  · exact c_LN_load_s3 l g _ x2 x3 r w0 w1 w2 w3 w4 h1
  · exact c_LN_load_so l g _ x1 x2 x3 r h1
def eM_load (x1 : Int32) (x2 : Int32) (x3 : Int32) (σ : St) (r : Int32) (σ' : St) : Prop :=
  ∃ (w0 : Int32) (w1 : Int32) (w2 : Nat → Int32), M_load x1 x2 x3 (σ.1 3238) (σ.1 3212) (σ.1 3203) (σ.2.2.1 53) (σ.2.2.1 54) (σ.2.2.1 52) = some (r, w0, w1, w2) ∧ σ' = (mkS σ [(3238, w0), (3212, w1)] [] [(54, w2)] [])
theorem eM_load_cn {x1 x2 x3 : Int32} {σ : St} {r : Int32} {σ' : St} (h : eM_load x1 x2 x3 σ r σ') (l : Launch) (g : GC) : Cn l g yX9_load (Cond.code yX9_load cX9_load 7 (some .int) :: wG) 2 46 [.ref (g.2.1 50), .int x1, .int x2, .int x3] σ (some (.int r)) σ' := by
  obtain ⟨w0, w1, w2, h1, rfl⟩ := h
  exact c_M_load l g _ x1 x2 x3 r w0 w1 w2 h1
def eL_joined (x1 : Int32) (x2 : Int32) (σ : St) (r : Int32) (σ' : St) : Prop :=
  LN_joined x1 x2 (σ.1 641) (σ.2.2.1 11) = some r ∧ σ' = σ
theorem eL_joined_cn {x1 x2 : Int32} {σ : St} {r : Int32} {σ' : St} (h : eL_joined x1 x2 σ r σ') (l : Launch) (g : GC) : Cn l g yX8_joined (Cond.code yX8_joined cX8_joined 3 (some .boolean) :: wG) 2 43 [.ref (g.2.1 0), .int x1, .int x2] σ (some (.int r)) σ' := by
  obtain ⟨h1, rfl⟩ := h
  exact c_LN_joined l g _ x1 x2 r h1
def eM_joined (x1 : Int32) (x2 : Int32) (σ : St) (r : Int32) (σ' : St) : Prop :=
  M_joined x1 x2 (σ.1 3203) (σ.2.2.1 54) = some r ∧ σ' = σ
theorem eM_joined_cn {x1 x2 : Int32} {σ : St} {r : Int32} {σ' : St} (h : eM_joined x1 x2 σ r σ') (l : Launch) (g : GC) : Cn l g yX9_joined (Cond.code yX9_joined cX9_joined 3 (some .boolean) :: wG) 2 46 [.ref (g.2.1 50), .int x1, .int x2] σ (some (.int r)) σ' := by
  obtain ⟨h1, rfl⟩ := h
  exact c_M_joined l g _ x1 x2 r h1
def eL_build (x1 : Int32) (x2 : Int32) (x3 : Int32) (σ : St) (r : Int32) (σ' : St) : Prop :=
  ∃ (w0 : Int32) (w1 : Int32) (w2 : Int32) (w3 : Int32) (w4 : Int32) (w5 : Int32) (w6 : Nat → Int32) (w7 : Nat → Int32) (w8 : Nat → Int32), LN_build x1 x2 x3 (σ.1 1539) (σ.1 769) (σ.1 641) (σ.1 2632) (σ.1 2372) (σ.1 1283) (σ.2.2.1 13) (σ.2.2.1 19) (σ.2.2.1 11) = some (r, w0, w1, w2, w3, w4, w5, w6, w7, w8) ∧ σ' = (mkS σ [(1539, w0), (769, w1), (641, w2), (2632, w3), (2372, w4), (1283, w5)] [] [(13, w6), (19, w7), (11, w8)] [])
theorem eL_build_cn {x1 x2 x3 : Int32} {σ : St} {r : Int32} {σ' : St} (h : eL_build x1 x2 x3 σ r σ') (l : Launch) (g : GC) : Cn l g yX8_build (Cond.code yX8_build cX8_build 6 (some .int) :: wG) 5 114 [.ref (g.2.1 0), .int x1, .int x2, .int x3] σ (some (.int r)) σ' := by
  obtain ⟨w0, w1, w2, w3, w4, w5, w6, w7, w8, h1, rfl⟩ := h
  exact c_LN_build l g _ x1 x2 x3 r w0 w1 w2 w3 w4 w5 w6 w7 w8 h1
def eM_build (x1 : Int32) (x2 : Int32) (x3 : Int32) (σ : St) (r : Int32) (σ' : St) : Prop :=
  ∃ (w0 : Int32) (w1 : Int32) (w2 : Int32) (w3 : Nat → Int32) (w4 : Nat → Int32), M_build x1 x2 x3 (σ.1 3238) (σ.1 3212) (σ.1 3203) (σ.2.2.1 54) (σ.2.2.1 58) = some (r, w0, w1, w2, w3, w4) ∧ σ' = (mkS σ [(3238, w0), (3212, w1), (3203, w2)] [] [(54, w3), (58, w4)] [])
theorem eM_build_cn {x1 x2 x3 : Int32} {σ : St} {r : Int32} {σ' : St} (h : eM_build x1 x2 x3 σ r σ') (l : Launch) (g : GC) : Cn l g yX9_build (Cond.code yX9_build cX9_build 9 (some .int) :: wG) 2 52 [.ref (g.2.1 50), .int x1, .int x2, .int x3] σ (some (.int r)) σ' := by
  obtain ⟨w0, w1, w2, w3, w4, h1, rfl⟩ := h
  exact c_M_build l g _ x1 x2 x3 r w0 w1 w2 w3 w4 h1
def eL_way (x1 : Int32) (x2 : Int32) (σ : St) (r : Int32) (σ' : St) : Prop :=
  ∃ (w0 : Int32) (w1 : Int32) (w2 : Int32) (w3 : Int32) (w4 : Nat → Int32) (w5 : Nat → Int32) (w6 : Nat → Int32), LN_way x1 x2 (σ.1 641) (σ.1 1286) (σ.1 1283) (σ.1 1285) (σ.1 1284) (σ.2.2.1 11) (σ.2.2.1 22) (σ.2.2.1 23) (σ.2.2.1 21) = some (r, w0, w1, w2, w3, w4, w5, w6) ∧ σ' = (mkS σ [(1286, w0), (1283, w1), (1285, w2), (1284, w3)] [] [(22, w4), (23, w5), (21, w6)] [])
theorem eL_way_cn {x1 x2 : Int32} {σ : St} {r : Int32} {σ' : St} (h : eL_way x1 x2 σ r σ') (l : Launch) (g : GC) : Cn l g yX8_way (Cond.code yX8_way cX8_way 4 (some .int) :: wG) 5 114 [.ref (g.2.1 0), .int x1, .int x2] σ (some (.int r)) σ' := by
  obtain ⟨w0, w1, w2, w3, w4, w5, w6, h1, rfl⟩ := h
  exact c_LN_way l g _ x1 x2 r w0 w1 w2 w3 w4 w5 w6 h1
def eM_way (x1 : Int32) (x2 : Int32) (σ : St) (r : Int32) (σ' : St) : Prop :=
  ∃ (w0 : Int32) (w1 : Int32) (w2 : Int32) (w3 : Nat → Int32), M_way x1 x2 (σ.1 3214) (σ.1 3215) (σ.1 3212) (σ.1 3203) (σ.2.2.1 54) (σ.2.2.1 59) = some (r, w0, w1, w2, w3) ∧ σ' = (mkS σ [(3214, w0), (3215, w1), (3212, w2)] [] [(59, w3)] [])
theorem eM_way_cn {x1 x2 : Int32} {σ : St} {r : Int32} {σ' : St} (h : eM_way x1 x2 σ r σ') (l : Launch) (g : GC) : Cn l g yX9_way (Cond.code yX9_way cX9_way 3 (some .int) :: wG) 2 47 [.ref (g.2.1 50), .int x1, .int x2] σ (some (.int r)) σ' := by
  obtain ⟨w0, w1, w2, w3, h1, rfl⟩ := h
  exact c_M_way l g _ x1 x2 r w0 w1 w2 w3 h1
def eL_many (x1 : Int32) (σ : St) (r : Int32) (σ' : St) : Prop :=
  ∃ (w0 : Int32) (w1 : Int32) (w2 : Int32) (w3 : Int32) (w4 : Int32) (w5 : Int32) (w6 : Int32) (w7 : Int32) (w8 : Nat → Int32) (w9 : Nat → Int32) (w10 : Nat → Int32) (w11 : Nat → Int32) (w12 : Nat → Int32) (w13 : Nat → Int32), LN_many x1 (σ.1 1541) (σ.1 1542) (σ.1 1540) (σ.1 1539) (σ.1 641) (σ.1 1286) (σ.1 1283) (σ.1 1285) (σ.1 1284) (σ.2.2.1 26) (σ.2.2.1 27) (σ.2.2.1 25) (σ.2.2.1 11) (σ.2.2.1 22) (σ.2.2.1 23) (σ.2.2.1 21) = some (r, w0, w1, w2, w3, w4, w5, w6, w7, w8, w9, w10, w11, w12, w13) ∧ σ' = (mkS σ [(1541, w0), (1542, w1), (1540, w2), (1539, w3), (1286, w4), (1283, w5), (1285, w6), (1284, w7)] [] [(26, w8), (27, w9), (25, w10), (22, w11), (23, w12), (21, w13)] [])
theorem eL_many_cn {x1 : Int32} {σ : St} {r : Int32} {σ' : St} (h : eL_many x1 σ r σ') (l : Launch) (g : GC) : Cn l g yX8_many (Cond.code yX8_many cX8_many 2 (some .int) :: wG) 6 134 [.ref (g.2.1 0), .int x1] σ (some (.int r)) σ' := by
  obtain ⟨w0, w1, w2, w3, w4, w5, w6, w7, w8, w9, w10, w11, w12, w13, h1, rfl⟩ := h
  exact c_LN_many l g _ x1 r w0 w1 w2 w3 w4 w5 w6 w7 w8 w9 w10 w11 w12 w13 h1
def eM_many (x1 : Int32) (σ : St) (r : Int32) (σ' : St) : Prop :=
  ∃ (w0 : Int32) (w1 : Int32) (w2 : Int32) (w3 : Int32) (w4 : Int32) (w5 : Nat → Int32) (w6 : Nat → Int32) (w7 : Nat → Int32) (w8 : Nat → Int32) (w9 : Nat → Int32) (w10 : Nat → Int32), M_many x1 (σ.1 3221) (σ.1 3222) (σ.1 3214) (σ.1 3215) (σ.1 3212) (σ.1 3203) (σ.2.2.1 64) (σ.2.2.1 60) (σ.2.2.1 54) (σ.2.2.1 62) (σ.2.2.1 63) (σ.2.2.1 61) (σ.2.2.1 59) = some (r, w0, w1, w2, w3, w4, w5, w6, w7, w8, w9, w10) ∧ σ' = (mkS σ [(3221, w0), (3222, w1), (3214, w2), (3215, w3), (3212, w4)] [] [(64, w5), (60, w6), (62, w7), (63, w8), (61, w9), (59, w10)] [])
theorem eM_many_cn {x1 : Int32} {σ : St} {r : Int32} {σ' : St} (h : eM_many x1 σ r σ') (l : Launch) (g : GC) : Cn l g yX9_many (Cond.code yX9_many cX9_many 2 (some .int) :: wG) 4 93 [.ref (g.2.1 50), .int x1] σ (some (.int r)) σ' := by
  obtain ⟨w0, w1, w2, w3, w4, w5, w6, w7, w8, w9, w10, h1, rfl⟩ := h
  exact c_M_many l g _ x1 r w0 w1 w2 w3 w4 w5 w6 w7 w8 w9 w10 h1
def eL_clash (x1 : Int32) (σ : St) (r : Int32) (σ' : St) : Prop :=
  ∃ (w0 : Int32) (w1 : Int32) (w2 : Int32) (w3 : Int32) (w4 : Int32) (w5 : Int32) (w6 : Int32) (w7 : Int32) (w8 : Nat → Int32) (w9 : Nat → Int32) (w10 : Nat → Int32) (w11 : Nat → Int32) (w12 : Nat → Int32) (w13 : Nat → Int32), LN_clash x1 (σ.1 1541) (σ.1 1542) (σ.1 1540) (σ.1 1539) (σ.1 641) (σ.1 1286) (σ.1 1283) (σ.1 1285) (σ.1 1284) (σ.2.2.1 26) (σ.2.2.1 27) (σ.2.2.1 25) (σ.2.2.1 11) (σ.2.2.1 22) (σ.2.2.1 23) (σ.2.2.1 21) = some (r, w0, w1, w2, w3, w4, w5, w6, w7, w8, w9, w10, w11, w12, w13) ∧ σ' = (mkS σ [(1541, w0), (1542, w1), (1540, w2), (1539, w3), (1286, w4), (1283, w5), (1285, w6), (1284, w7)] [] [(26, w8), (27, w9), (25, w10), (22, w11), (23, w12), (21, w13)] [])
theorem eL_clash_cn {x1 : Int32} {σ : St} {r : Int32} {σ' : St} (h : eL_clash x1 σ r σ') (l : Launch) (g : GC) : Cn l g yX8_clash (Cond.code yX8_clash cX8_clash 2 (some .int) :: wG) 6 134 [.ref (g.2.1 0), .int x1] σ (some (.int r)) σ' := by
  obtain ⟨w0, w1, w2, w3, w4, w5, w6, w7, w8, w9, w10, w11, w12, w13, h1, rfl⟩ := h
  exact c_LN_clash l g _ x1 r w0 w1 w2 w3 w4 w5 w6 w7 w8 w9 w10 w11 w12 w13 h1
def eM_clash (x1 : Int32) (σ : St) (r : Int32) (σ' : St) : Prop :=
  ∃ (w0 : Int32) (w1 : Int32) (w2 : Int32) (w3 : Int32) (w4 : Int32) (w5 : Nat → Int32) (w6 : Nat → Int32) (w7 : Nat → Int32) (w8 : Nat → Int32) (w9 : Nat → Int32), M_clash x1 (σ.1 3221) (σ.1 3222) (σ.1 3214) (σ.1 3215) (σ.1 3212) (σ.1 3203) (σ.2.2.1 64) (σ.2.2.1 54) (σ.2.2.1 62) (σ.2.2.1 63) (σ.2.2.1 61) (σ.2.2.1 59) = some (r, w0, w1, w2, w3, w4, w5, w6, w7, w8, w9) ∧ σ' = (mkS σ [(3221, w0), (3222, w1), (3214, w2), (3215, w3), (3212, w4)] [] [(64, w5), (62, w6), (63, w7), (61, w8), (59, w9)] [])
theorem eM_clash_cn {x1 : Int32} {σ : St} {r : Int32} {σ' : St} (h : eM_clash x1 σ r σ') (l : Launch) (g : GC) : Cn l g yX9_clash (Cond.code yX9_clash cX9_clash 2 (some .int) :: wG) 4 93 [.ref (g.2.1 50), .int x1] σ (some (.int r)) σ' := by
  obtain ⟨w0, w1, w2, w3, w4, w5, w6, w7, w8, w9, h1, rfl⟩ := h
  exact c_M_clash l g _ x1 r w0 w1 w2 w3 w4 w5 w6 w7 w8 w9 h1
def eL_table (x1 : Int32) (x2 : Int32) (σ : St) (r : Int32) (σ' : St) : Prop :=
  ∃ (w0 : Int32) (w1 : Int32) (w2 : Int32) (w3 : Int32) (w4 : Int32) (w5 : Int32) (w6 : Int32) (w7 : Int32) (w8 : Nat → Int32) (w9 : Nat → Int32) (w10 : Nat → Int32) (w11 : Nat → Int32) (w12 : Nat → Int32) (w13 : Nat → Int32), LN_table x1 x2 (σ.1 1541) (σ.1 1542) (σ.1 1540) (σ.1 1539) (σ.1 641) (σ.1 1286) (σ.1 1283) (σ.1 1285) (σ.1 1284) (σ.2.2.1 26) (σ.2.2.1 27) (σ.2.2.1 25) (σ.2.2.1 11) (σ.2.2.1 22) (σ.2.2.1 23) (σ.2.2.1 21) = some (r, w0, w1, w2, w3, w4, w5, w6, w7, w8, w9, w10, w11, w12, w13) ∧ σ' = (mkS σ [(1541, w0), (1542, w1), (1540, w2), (1539, w3), (1286, w4), (1283, w5), (1285, w6), (1284, w7)] [] [(26, w8), (27, w9), (25, w10), (22, w11), (23, w12), (21, w13)] [])
theorem eL_table_cn {x1 x2 : Int32} {σ : St} {r : Int32} {σ' : St} (h : eL_table x1 x2 σ r σ') (l : Launch) (g : GC) : Cn l g yX8_table (Cond.code yX8_table cX8_table 3 (some .int) :: wG) 6 134 [.ref (g.2.1 0), .int x1, .int x2] σ (some (.int r)) σ' := by
  obtain ⟨w0, w1, w2, w3, w4, w5, w6, w7, w8, w9, w10, w11, w12, w13, h1, rfl⟩ := h
  exact c_LN_table l g _ x1 x2 r w0 w1 w2 w3 w4 w5 w6 w7 w8 w9 w10 w11 w12 w13 h1
def eM_table (x1 : Int32) (x2 : Int32) (σ : St) (r : Int32) (σ' : St) : Prop :=
  ∃ (w0 : Int32) (w1 : Int32) (w2 : Int32) (w3 : Int32) (w4 : Int32) (w5 : Nat → Int32) (w6 : Nat → Int32) (w7 : Nat → Int32) (w8 : Nat → Int32) (w9 : Nat → Int32), M_table x1 x2 (σ.1 3221) (σ.1 3222) (σ.1 3214) (σ.1 3215) (σ.1 3212) (σ.1 3203) (σ.2.2.1 64) (σ.2.2.1 54) (σ.2.2.1 62) (σ.2.2.1 63) (σ.2.2.1 61) (σ.2.2.1 59) = some (r, w0, w1, w2, w3, w4, w5, w6, w7, w8, w9) ∧ σ' = (mkS σ [(3221, w0), (3222, w1), (3214, w2), (3215, w3), (3212, w4)] [] [(64, w5), (62, w6), (63, w7), (61, w8), (59, w9)] [])
theorem eM_table_cn {x1 x2 : Int32} {σ : St} {r : Int32} {σ' : St} (h : eM_table x1 x2 σ r σ') (l : Launch) (g : GC) : Cn l g yX9_table (Cond.code yX9_table cX9_table 3 (some .int) :: wG) 4 93 [.ref (g.2.1 50), .int x1, .int x2] σ (some (.int r)) σ' := by
  obtain ⟨w0, w1, w2, w3, w4, w5, w6, w7, w8, w9, h1, rfl⟩ := h
  exact c_M_table l g _ x1 x2 r w0 w1 w2 w3 w4 w5 w6 w7 w8 w9 h1
def eL_thirds (x1 : Int32) (x2 : Int32) (x3 : Int32) (x4 : Int32) (σ : St) (r : Int32) (σ' : St) : Prop :=
  ∃ (w0 : Int32) (w1 : Int32) (w2 : Int32) (w3 : Int32) (w4 : Nat → Int32) (w5 : Nat → Int32) (w6 : Nat → Int32), LN_thirds x1 x2 x3 x4 (σ.1 641) (σ.1 1286) (σ.1 1283) (σ.1 1285) (σ.1 1284) (σ.2.2.1 11) (σ.2.2.1 22) (σ.2.2.1 23) (σ.2.2.1 21) = some (r, w0, w1, w2, w3, w4, w5, w6) ∧ σ' = (mkS σ [(1286, w0), (1283, w1), (1285, w2), (1284, w3)] [] [(22, w4), (23, w5), (21, w6)] [])
theorem eL_thirds_cn {x1 x2 x3 x4 : Int32} {σ : St} {r : Int32} {σ' : St} (h : eL_thirds x1 x2 x3 x4 σ r σ') (l : Launch) (g : GC) : Cn l g yX8_thirds (Cond.code yX8_thirds cX8_thirds 5 (some .int) :: wG) 5 114 [.ref (g.2.1 0), .int x1, .int x2, .int x3, .int x4] σ (some (.int r)) σ' := by
  obtain ⟨w0, w1, w2, w3, w4, w5, w6, h1, rfl⟩ := h
  exact c_LN_thirds l g _ x1 x2 x3 x4 r w0 w1 w2 w3 w4 w5 w6 h1
def eM_thirds (x1 : Int32) (x2 : Int32) (x3 : Int32) (x4 : Int32) (σ : St) (r : Int32) (σ' : St) : Prop :=
  ∃ (w0 : Int32) (w1 : Int32) (w2 : Int32) (w3 : Nat → Int32), M_thirds x1 x2 x3 x4 (σ.1 3214) (σ.1 3215) (σ.1 3212) (σ.1 3203) (σ.2.2.1 54) (σ.2.2.1 59) = some (r, w0, w1, w2, w3) ∧ σ' = (mkS σ [(3214, w0), (3215, w1), (3212, w2)] [] [(59, w3)] [])
theorem eM_thirds_cn {x1 x2 x3 x4 : Int32} {σ : St} {r : Int32} {σ' : St} (h : eM_thirds x1 x2 x3 x4 σ r σ') (l : Launch) (g : GC) : Cn l g yX9_thirds (Cond.code yX9_thirds cX9_thirds 8 (some .int) :: wG) 2 47 [.ref (g.2.1 50), .int x1, .int x2, .int x3, .int x4] σ (some (.int r)) σ' := by
  obtain ⟨w0, w1, w2, w3, h1, rfl⟩ := h
  exact c_M_thirds l g _ x1 x2 x3 x4 r w0 w1 w2 w3 h1
def eL_tell (x1 : Int32) (σ : St) (r : Int32) (σ' : St) : Prop :=
  ∃ (w0 : Int32) (w1 : Int32) (w2 : Nat → Int32) (w3 : Nat → Int32), LN_tell x1 (σ.1 1804) (σ.1 1800) (σ.2.2.1 29) (σ.2.2.1 30) = some (r, w0, w1, w2, w3) ∧ σ' = (mkS σ [(1804, w0), (1800, w1)] [] [(29, w2), (30, w3)] [])
theorem eL_tell_cn {x1 : Int32} {σ : St} {r : Int32} {σ' : St} (h : eL_tell x1 σ r σ') (l : Launch) (g : GC) : Cn l g yX8_tell (Cond.code yX8_tell cX8_tell 2 (some .int) :: wG) 2 45 [.ref (g.2.1 0), .int x1] σ (some (.int r)) σ' := by
  obtain ⟨w0, w1, w2, w3, h1, rfl⟩ := h
  exact c_LN_tell l g _ x1 r w0 w1 w2 w3 h1
def eM_tell (x1 : Int32) (σ : St) (r : Int32) (σ' : St) : Prop :=
  ∃ (w0 : Int32) (w1 : Nat → Int32) (w2 : Nat → Int32), M_tell x1 (σ.1 3208) (σ.2.2.1 56) (σ.2.2.1 57) = some (r, w0, w1, w2) ∧ σ' = (mkS σ [(3208, w0)] [] [(56, w1), (57, w2)] [])
theorem eM_tell_cn {x1 : Int32} {σ : St} {r : Int32} {σ' : St} (h : eM_tell x1 σ r σ') (l : Launch) (g : GC) : Cn l g yX9_tell (Cond.code yX9_tell cX9_tell 3 (some .int) :: wG) 1 25 [.ref (g.2.1 50), .int x1] σ (some (.int r)) σ' := by
  obtain ⟨w0, w1, w2, h1, rfl⟩ := h
  exact c_M_tell l g _ x1 r w0 w1 w2 h1
def eL_put (x1 : Int32) (x2 : Int32) (x3 : Int32) (σ : St) (r : Int32) (σ' : St) : Prop :=
  ∃ (w0 : Int32) (w1 : Nat → Int32) (w2 : Nat → Int32), LN_put x1 x2 x3 (σ.1 1804) (σ.1 1800) (σ.2.2.1 29) (σ.2.2.1 30) = some (r, w0, w1, w2) ∧ σ' = (mkS σ [(1804, w0)] [] [(29, w1), (30, w2)] [])
theorem eL_put_cn {x1 x2 x3 : Int32} {σ : St} {r : Int32} {σ' : St} (h : eL_put x1 x2 x3 σ r σ') (l : Launch) (g : GC) : Cn l g yX8_put (Cond.code yX8_put cX8_put 4 (some .int) :: wG) 1 22 [.ref (g.2.1 0), .int x1, .int x2, .int x3] σ (some (.int r)) σ' := by
  obtain ⟨w0, w1, w2, h1, rfl⟩ := h
  exact c_LN_put l g _ x1 x2 x3 r w0 w1 w2 h1
def eM_put (x1 : Int32) (x2 : Int32) (x3 : Int32) (σ : St) (r : Int32) (σ' : St) : Prop :=
  ∃ (w0 : Nat → Int32) (w1 : Nat → Int32), M_put x1 x2 x3 (σ.1 3208) (σ.2.2.1 56) (σ.2.2.1 57) = some (r, w0, w1) ∧ σ' = (mkS σ [] [] [(56, w0), (57, w1)] [])
theorem eM_put_cn {x1 x2 x3 : Int32} {σ : St} {r : Int32} {σ' : St} (h : eM_put x1 x2 x3 σ r σ') (l : Launch) (g : GC) : Cn l g yX9_put (Cond.code yX9_put cX9_put 4 (some .int) :: wG) 1 25 [.ref (g.2.1 50), .int x1, .int x2, .int x3] σ (some (.int r)) σ' := by
  obtain ⟨w0, w1, h1, rfl⟩ := h
  exact c_M_put l g _ x1 x2 x3 r w0 w1 h1
def eL_take  (σ : St) (r : Int32) (σ' : St) : Prop :=
  ∃ (w0 : Int32) (w1 : Int32) (w2 : Int32) (w3 : Int32) (w4 : Int32) (w5 : Int32) (w6 : Int32) (w7 : Int32) (w8 : Int32) (w9 : Int32) (w10 : Nat → Int32) (w11 : Nat → Int32) (w12 : Nat → Int32) (w13 : Nat → Int32) (w14 : Nat → Int32) (w15 : Nat → Int32) (w16 : Nat → Int32) (w17 : Nat → Int32), LN_take (σ.1 1541) (σ.1 1542) (σ.1 1540) (σ.1 1539) (σ.1 641) (σ.1 1804) (σ.1 1800) (σ.1 1286) (σ.1 1283) (σ.1 1285) (σ.1 1284) (σ.2.2.1 26) (σ.2.2.1 27) (σ.2.2.1 25) (σ.2.2.1 11) (σ.2.2.1 29) (σ.2.2.1 30) (σ.2.2.1 22) (σ.2.2.1 23) (σ.2.2.1 21) = some (r, w0, w1, w2, w3, w4, w5, w6, w7, w8, w9, w10, w11, w12, w13, w14, w15, w16, w17) ∧ σ' = (mkS σ [(1541, w0), (1542, w1), (1540, w2), (1539, w3), (1804, w4), (1800, w5), (1286, w6), (1283, w7), (1285, w8), (1284, w9)] [] [(26, w10), (27, w11), (25, w12), (29, w13), (30, w14), (22, w15), (23, w16), (21, w17)] [])
theorem eL_take_cn {σ : St} {r : Int32} {σ' : St} (h : eL_take σ r σ') (l : Launch) (g : GC) : Cn l g yX8_take (Cond.code yX8_take cX8_take 2 (some .int) :: wG) 6 134 [.ref (g.2.1 0)] σ (some (.int r)) σ' := by
  obtain ⟨w0, w1, w2, w3, w4, w5, w6, w7, w8, w9, w10, w11, w12, w13, w14, w15, w16, w17, h1, rfl⟩ := h
  exact c_LN_take l g _ r w0 w1 w2 w3 w4 w5 w6 w7 w8 w9 w10 w11 w12 w13 w14 w15 w16 w17 h1
def eM_take  (σ : St) (r : Int32) (σ' : St) : Prop :=
  ∃ (w0 : Int32) (w1 : Int32) (w2 : Int32) (w3 : Int32) (w4 : Int32) (w5 : Int32) (w6 : Nat → Int32) (w7 : Nat → Int32) (w8 : Nat → Int32) (w9 : Nat → Int32) (w10 : Nat → Int32) (w11 : Nat → Int32) (w12 : Nat → Int32), M_take (σ.1 3221) (σ.1 3222) (σ.1 3214) (σ.1 3215) (σ.1 3212) (σ.1 3208) (σ.1 3203) (σ.2.2.1 64) (σ.2.2.1 54) (σ.2.2.1 62) (σ.2.2.1 63) (σ.2.2.1 61) (σ.2.2.1 56) (σ.2.2.1 57) (σ.2.2.1 59) = some (r, w0, w1, w2, w3, w4, w5, w6, w7, w8, w9, w10, w11, w12) ∧ σ' = (mkS σ [(3221, w0), (3222, w1), (3214, w2), (3215, w3), (3212, w4), (3208, w5)] [] [(64, w6), (62, w7), (63, w8), (61, w9), (56, w10), (57, w11), (59, w12)] [])
theorem eM_take_cn {σ : St} {r : Int32} {σ' : St} (h : eM_take σ r σ') (l : Launch) (g : GC) : Cn l g yX9_take (Cond.code yX9_take cX9_take 4 (some .int) :: wG) 4 93 [.ref (g.2.1 50)] σ (some (.int r)) σ' := by
  obtain ⟨w0, w1, w2, w3, w4, w5, w6, w7, w8, w9, w10, w11, w12, h1, rfl⟩ := h
  exact c_M_take l g _ r w0 w1 w2 w3 w4 w5 w6 w7 w8 w9 w10 w11 w12 h1
def eL_can  (σ : St) (r : Int32) (σ' : St) : Prop :=
  ∃ (w0 : Int32) (w1 : Int32) (w2 : Int32) (w3 : Int64) (w4 : Nat → Int32) (w5 : Nat → Int32) (w6 : Nat → Int64) (w7 : Nat → Int64) (w8 : Nat → Int64), LN_can (σ.1 1802) (σ.1 1804) (σ.1 1800) (σ.1 1801) (σ.2.1 1803) (σ.2.2.1 29) (σ.2.2.1 30) (σ.2.2.1 35) (σ.2.2.1 36) (σ.2.2.2 31) (σ.2.2.2 33) (σ.2.2.2 32) = some (r, w0, w1, w2, w3, w4, w5, w6, w7, w8) ∧ σ' = (mkS σ [(1802, w0), (1804, w1), (1801, w2)] [(1803, w3)] [(35, w4), (36, w5)] [(31, w6), (33, w7), (32, w8)])
theorem eL_can_cn {σ : St} {r : Int32} {σ' : St} (h : eL_can σ r σ') (l : Launch) (g : GC) : Cn l g yX8_can (Cond.code yX8_can cX8_can 1 (some .int) :: wG) 5 112 [.ref (g.2.1 0)] σ (some (.int r)) σ' := by
  obtain ⟨w0, w1, w2, w3, w4, w5, w6, w7, w8, h1, rfl⟩ := h
  exact c_LN_can l g _ r w0 w1 w2 w3 w4 w5 w6 w7 w8 h1
def eM_can  (σ : St) (r : Int32) (σ' : St) : Prop :=
  ∃ (w0 : Int64) (w1 : Nat → Int64) (w2 : Nat → Int64) (w3 : Nat → Int64), M_can (σ.1 3208) (σ.2.1 3224) (σ.2.2.1 56) (σ.2.2.1 57) (σ.2.2.2 65) (σ.2.2.2 66) (σ.2.2.2 67) = some (r, w0, w1, w2, w3) ∧ σ' = (mkS σ [] [(3224, w0)] [] [(65, w1), (66, w2), (67, w3)])
theorem eM_can_cn {σ : St} {r : Int32} {σ' : St} (h : eM_can σ r σ') (l : Launch) (g : GC) : Cn l g yX9_can (Cond.code yX9_can cX9_can 2 (some .int) :: wG) 3 69 [.ref (g.2.1 50)] σ (some (.int r)) σ' := by
  obtain ⟨w0, w1, w2, w3, h1, rfl⟩ := h
  exact c_M_can l g _ r w0 w1 w2 w3 h1
def eL_entry (x1 : Int32) (x2 : Int32) (σ : St) (r : Int32) (σ' : St) : Prop :=
  ∃ (w0 : Int32) (w1 : Int32) (w2 : Int32) (w3 : Int64) (w4 : Nat → Int32) (w5 : Nat → Int32) (w6 : Nat → Int64) (w7 : Nat → Int64) (w8 : Nat → Int64), LN_entry x1 x2 (σ.1 1802) (σ.1 1804) (σ.1 1800) (σ.1 1801) (σ.2.1 1803) (σ.2.2.1 29) (σ.2.2.1 30) (σ.2.2.1 35) (σ.2.2.1 36) (σ.2.2.2 31) (σ.2.2.2 33) (σ.2.2.2 32) = some (r, w0, w1, w2, w3, w4, w5, w6, w7, w8) ∧ σ' = (mkS σ [(1802, w0), (1804, w1), (1801, w2)] [(1803, w3)] [(35, w4), (36, w5)] [(31, w6), (33, w7), (32, w8)])
theorem eL_entry_cn {x1 x2 : Int32} {σ : St} {r : Int32} {σ' : St} (h : eL_entry x1 x2 σ r σ') (l : Launch) (g : GC) : Cn l g yX8_entry (Cond.code yX8_entry cX8_entry 3 (some .int) :: wG) 6 134 [.ref (g.2.1 0), .int x1, .int x2] σ (some (.int r)) σ' := by
  obtain ⟨w0, w1, w2, w3, w4, w5, w6, w7, w8, h1, rfl⟩ := h
  exact c_LN_entry l g _ x1 x2 r w0 w1 w2 w3 w4 w5 w6 w7 w8 h1
def eM_entry (x1 : Int32) (x2 : Int32) (σ : St) (r : Int32) (σ' : St) : Prop :=
  ∃ (w0 : Int64) (w1 : Nat → Int64), M_entry x1 x2 (σ.1 3208) (σ.2.1 3224) (σ.2.2.1 56) (σ.2.2.1 57) (σ.2.2.2 65) = some (r, w0, w1) ∧ σ' = (mkS σ [] [(3224, w0)] [] [(65, w1)])
theorem eM_entry_cn {x1 x2 : Int32} {σ : St} {r : Int32} {σ' : St} (h : eM_entry x1 x2 σ r σ') (l : Launch) (g : GC) : Cn l g yX9_entry (Cond.code yX9_entry cX9_entry 3 (some .int) :: wG) 2 47 [.ref (g.2.1 50), .int x1, .int x2] σ (some (.int r)) σ' := by
  obtain ⟨w0, w1, h1, rfl⟩ := h
  exact c_M_entry l g _ x1 x2 r w0 w1 h1
def eL_posts  (σ : St) (r : Int32) (σ' : St) : Prop :=
  ∃ (w0 : Int32) (w1 : Int32) (w2 : Int32) (w3 : Int64) (w4 : Nat → Int32) (w5 : Nat → Int32) (w6 : Nat → Int64) (w7 : Nat → Int64) (w8 : Nat → Int64), LN_posts (σ.1 1802) (σ.1 1804) (σ.1 1800) (σ.1 1801) (σ.2.1 1803) (σ.2.2.1 29) (σ.2.2.1 30) (σ.2.2.1 35) (σ.2.2.1 36) (σ.2.2.2 31) (σ.2.2.2 33) (σ.2.2.2 32) = some (r, w0, w1, w2, w3, w4, w5, w6, w7, w8) ∧ σ' = (mkS σ [(1802, w0), (1804, w1), (1801, w2)] [(1803, w3)] [(35, w4), (36, w5)] [(31, w6), (33, w7), (32, w8)])
theorem eL_posts_cn {σ : St} {r : Int32} {σ' : St} (h : eL_posts σ r σ') (l : Launch) (g : GC) : Cn l g yX8_posts (Cond.code yX8_posts cX8_posts 1 (some .int) :: wG) 6 134 [.ref (g.2.1 0)] σ (some (.int r)) σ' := by
  obtain ⟨w0, w1, w2, w3, w4, w5, w6, w7, w8, h1, rfl⟩ := h
  exact c_LN_posts l g _ r w0 w1 w2 w3 w4 w5 w6 w7 w8 h1
def eM_posts  (σ : St) (r : Int32) (σ' : St) : Prop :=
  ∃ (w0 : Int64) (w1 : Nat → Int64), M_posts (σ.1 3208) (σ.2.1 3224) (σ.2.2.1 56) (σ.2.2.1 57) (σ.2.2.2 65) = some (r, w0, w1) ∧ σ' = (mkS σ [] [(3224, w0)] [] [(65, w1)])
theorem eM_posts_cn {σ : St} {r : Int32} {σ' : St} (h : eM_posts σ r σ') (l : Launch) (g : GC) : Cn l g yX9_posts (Cond.code yX9_posts cX9_posts 1 (some .int) :: wG) 2 47 [.ref (g.2.1 50)] σ (some (.int r)) σ' := by
  obtain ⟨w0, w1, h1, rfl⟩ := h
  exact c_M_posts l g _ r w0 w1 h1
def eL_third (x1 : Int32) (x2 : Int32) (x3 : Int32) (σ : St) (r : Int32) (σ' : St) : Prop :=
  ∃ (w0 : Int32) (w1 : Int32) (w2 : Int32) (w3 : Int64) (w4 : Nat → Int32) (w5 : Nat → Int32) (w6 : Nat → Int64) (w7 : Nat → Int64) (w8 : Nat → Int64), LN_third x1 x2 x3 (σ.1 1802) (σ.1 1804) (σ.1 1800) (σ.1 1801) (σ.2.1 1803) (σ.2.2.1 29) (σ.2.2.1 30) (σ.2.2.1 35) (σ.2.2.1 36) (σ.2.2.2 31) (σ.2.2.2 33) (σ.2.2.2 32) = some (r, w0, w1, w2, w3, w4, w5, w6, w7, w8) ∧ σ' = (mkS σ [(1802, w0), (1804, w1), (1801, w2)] [(1803, w3)] [(35, w4), (36, w5)] [(31, w6), (33, w7), (32, w8)])
theorem eL_third_cn {x1 x2 x3 : Int32} {σ : St} {r : Int32} {σ' : St} (h : eL_third x1 x2 x3 σ r σ') (l : Launch) (g : GC) : Cn l g yX8_third (Cond.code yX8_third cX8_third 4 (some .int) :: wG) 6 134 [.ref (g.2.1 0), .int x1, .int x2, .int x3] σ (some (.int r)) σ' := by
  obtain ⟨w0, w1, w2, w3, w4, w5, w6, w7, w8, h1, rfl⟩ := h
  exact c_LN_third l g _ x1 x2 x3 r w0 w1 w2 w3 w4 w5 w6 w7 w8 h1
def eM_third (x1 : Int32) (x2 : Int32) (x3 : Int32) (σ : St) (r : Int32) (σ' : St) : Prop :=
  ∃ (w0 : Int64) (w1 : Nat → Int64) (w2 : Nat → Int64), M_third x1 x2 x3 (σ.1 3208) (σ.2.1 3224) (σ.2.2.1 56) (σ.2.2.1 57) (σ.2.2.2 65) (σ.2.2.2 66) = some (r, w0, w1, w2) ∧ σ' = (mkS σ [] [(3224, w0)] [] [(65, w1), (66, w2)])
theorem eM_third_cn {x1 x2 x3 : Int32} {σ : St} {r : Int32} {σ' : St} (h : eM_third x1 x2 x3 σ r σ') (l : Launch) (g : GC) : Cn l g yX9_third (Cond.code yX9_third cX9_third 4 (some .int) :: wG) 3 69 [.ref (g.2.1 50), .int x1, .int x2, .int x3] σ (some (.int r)) σ' := by
  obtain ⟨w0, w1, w2, h1, rfl⟩ := h
  exact c_M_third l g _ x1 x2 x3 r w0 w1 w2 h1
def eL_root (x1 : Int32) (x2 : Int32) (σ : St) (r : Int32) (σ' : St) : Prop :=
  ∃ (w0 : Int32) (w1 : Int32) (w2 : Int32) (w3 : Int64) (w4 : Nat → Int32) (w5 : Nat → Int32) (w6 : Nat → Int64) (w7 : Nat → Int64) (w8 : Nat → Int64), LN_root x1 x2 (σ.1 1802) (σ.1 1804) (σ.1 1800) (σ.1 1801) (σ.2.1 1803) (σ.2.2.1 29) (σ.2.2.1 30) (σ.2.2.1 35) (σ.2.2.1 36) (σ.2.2.2 31) (σ.2.2.2 33) (σ.2.2.2 32) = some (r, w0, w1, w2, w3, w4, w5, w6, w7, w8) ∧ σ' = (mkS σ [(1802, w0), (1804, w1), (1801, w2)] [(1803, w3)] [(35, w4), (36, w5)] [(31, w6), (33, w7), (32, w8)])
theorem eL_root_cn {x1 x2 : Int32} {σ : St} {r : Int32} {σ' : St} (h : eL_root x1 x2 σ r σ') (l : Launch) (g : GC) : Cn l g yX8_root (Cond.code yX8_root cX8_root 3 (some .int) :: wG) 6 134 [.ref (g.2.1 0), .int x1, .int x2] σ (some (.int r)) σ' := by
  obtain ⟨w0, w1, w2, w3, w4, w5, w6, w7, w8, h1, rfl⟩ := h
  exact c_LN_root l g _ x1 x2 r w0 w1 w2 w3 w4 w5 w6 w7 w8 h1
def eM_root (x1 : Int32) (x2 : Int32) (σ : St) (r : Int32) (σ' : St) : Prop :=
  ∃ (w0 : Int64) (w1 : Nat → Int64) (w2 : Nat → Int64) (w3 : Nat → Int64), M_root x1 x2 (σ.1 3208) (σ.2.1 3224) (σ.2.2.1 56) (σ.2.2.1 57) (σ.2.2.2 65) (σ.2.2.2 66) (σ.2.2.2 67) = some (r, w0, w1, w2, w3) ∧ σ' = (mkS σ [] [(3224, w0)] [] [(65, w1), (66, w2), (67, w3)])
theorem eM_root_cn {x1 x2 : Int32} {σ : St} {r : Int32} {σ' : St} (h : eM_root x1 x2 σ r σ') (l : Launch) (g : GC) : Cn l g yX9_root (Cond.code yX9_root cX9_root 5 (some .int) :: wG) 3 69 [.ref (g.2.1 50), .int x1, .int x2] σ (some (.int r)) σ' := by
  obtain ⟨w0, w1, w2, w3, h1, rfl⟩ := h
  exact c_M_root l g _ x1 x2 r w0 w1 w2 w3 h1
def eL_walks (x1 : Int32) (x2 : Int32) (σ : St) (r : Int64) (σ' : St) : Prop :=
  ∃ (w0 : Int32) (w1 : Int32) (w2 : Int32) (w3 : Int64) (w4 : Nat → Int32) (w5 : Nat → Int32) (w6 : Nat → Int64) (w7 : Nat → Int64) (w8 : Nat → Int64) (w9 : Nat → Int64), LN_walks x1 x2 (σ.1 1802) (σ.1 1804) (σ.1 1800) (σ.1 1801) (σ.2.1 1803) (σ.2.2.1 29) (σ.2.2.1 30) (σ.2.2.1 35) (σ.2.2.1 36) (σ.2.2.2 31) (σ.2.2.2 33) (σ.2.2.2 32) (σ.2.2.2 34) = some (r, w0, w1, w2, w3, w4, w5, w6, w7, w8, w9) ∧ σ' = (mkS σ [(1802, w0), (1804, w1), (1801, w2)] [(1803, w3)] [(35, w4), (36, w5)] [(31, w6), (33, w7), (32, w8), (34, w9)])
theorem eL_walks_cn {x1 x2 : Int32} {σ : St} {r : Int64} {σ' : St} (h : eL_walks x1 x2 σ r σ') (l : Launch) (g : GC) : Cn l g yX8_walks (Cond.code yX8_walks cX8_walks 3 (some .long) :: wG) 6 134 [.ref (g.2.1 0), .int x1, .int x2] σ (some (.long r)) σ' := by
  obtain ⟨w0, w1, w2, w3, w4, w5, w6, w7, w8, w9, h1, rfl⟩ := h
  exact c_LN_walks l g _ x1 x2 r w0 w1 w2 w3 w4 w5 w6 w7 w8 w9 h1
def eM_walks (x1 : Int32) (x2 : Int32) (σ : St) (r : Int64) (σ' : St) : Prop :=
  ∃ (w0 : Int64) (w1 : Nat → Int64) (w2 : Nat → Int64) (w3 : Nat → Int64), M_walks x1 x2 (σ.1 3208) (σ.2.1 3224) (σ.2.2.1 56) (σ.2.2.1 57) (σ.2.2.2 69) (σ.2.2.2 65) (σ.2.2.2 68) = some (r, w0, w1, w2, w3) ∧ σ' = (mkS σ [] [(3224, w0)] [] [(69, w1), (65, w2), (68, w3)])
theorem eM_walks_cn {x1 x2 : Int32} {σ : St} {r : Int64} {σ' : St} (h : eM_walks x1 x2 σ r σ') (l : Launch) (g : GC) : Cn l g yX9_walks (Cond.code yX9_walks cX9_walks 7 (some .long) :: wG) 2 47 [.ref (g.2.1 50), .int x1, .int x2] σ (some (.long r)) σ' := by
  obtain ⟨w0, w1, w2, w3, h1, rfl⟩ := h
  exact c_M_walks l g _ x1 x2 r w0 w1 w2 w3 h1
def eL_bound (x1 : Int32) (x2 : Int32) (σ : St) (r : Int64) (σ' : St) : Prop :=
  LN_bound x1 x2 = some r ∧ σ' = σ
theorem eL_bound_cn {x1 x2 : Int32} {σ : St} {r : Int64} {σ' : St} (h : eL_bound x1 x2 σ r σ') (l : Launch) (g : GC) : Cn l g yX8_bound (Cond.code yX8_bound cX8_bound 8 (some .long) :: wG) 0 0 [.ref (g.2.1 0), .int x1, .int x2] σ (some (.long r)) σ' := by
  obtain ⟨h1, rfl⟩ := h
  exact c_LN_bound l g _ x1 x2 r h1
def eM_bound (x1 : Int32) (x2 : Int32) (σ : St) (r : Int64) (σ' : St) : Prop :=
  M_bound x1 x2 = some r ∧ σ' = σ
theorem eM_bound_cn {x1 x2 : Int32} {σ : St} {r : Int64} {σ' : St} (h : eM_bound x1 x2 σ r σ') (l : Launch) (g : GC) : Cn l g yX9_bound (Cond.code yX9_bound cX9_bound 8 (some .long) :: wG) 1 25 [.ref (g.2.1 50), .int x1, .int x2] σ (some (.long r)) σ' := by
  obtain ⟨h1, rfl⟩ := h
  exact c_M_bound l g _ x1 x2 r h1
def eL_fold  (σ : St) (r : Int32) (σ' : St) : Prop :=
  ∃ (w0 : Int32) (w1 : Int32) (w2 : Int32) (w3 : Int32) (w4 : Int32) (w5 : Int32) (w6 : Int32) (w7 : Int32) (w8 : Int32) (w9 : Nat → Int32) (w10 : Nat → Int32) (w11 : Nat → Int32) (w12 : Nat → Int32) (w13 : Nat → Int32) (w14 : Nat → Int32), LN_fold (σ.1 1539) (σ.1 769) (σ.1 641) (σ.1 2632) (σ.1 2372) (σ.1 1286) (σ.1 1283) (σ.1 1285) (σ.1 1284) (σ.2.2.1 16) (σ.2.2.1 13) (σ.2.2.1 11) (σ.2.2.1 22) (σ.2.2.1 23) (σ.2.2.1 21) = some (r, w0, w1, w2, w3, w4, w5, w6, w7, w8, w9, w10, w11, w12, w13, w14) ∧ σ' = (mkS σ [(1539, w0), (769, w1), (641, w2), (2632, w3), (2372, w4), (1286, w5), (1283, w6), (1285, w7), (1284, w8)] [] [(16, w9), (13, w10), (11, w11), (22, w12), (23, w13), (21, w14)] [])
theorem eL_fold_cn {σ : St} {r : Int32} {σ' : St} (h : eL_fold σ r σ') (l : Launch) (g : GC) : Cn l g yX8_fold (Cond.code yX8_fold cX8_fold 5 (some .int) :: wG) 5 114 [.ref (g.2.1 0)] σ (some (.int r)) σ' := by
  obtain ⟨w0, w1, w2, w3, w4, w5, w6, w7, w8, w9, w10, w11, w12, w13, w14, h1, rfl⟩ := h
  exact c_LN_fold l g _ r w0 w1 w2 w3 w4 w5 w6 w7 w8 w9 w10 w11 w12 w13 w14 h1
def eM_fold  (σ : St) (r : Int32) (σ' : St) : Prop :=
  ∃ (w0 : Int32) (w1 : Int32) (w2 : Int32) (w3 : Int32) (w4 : Int32) (w5 : Nat → Int32) (w6 : Nat → Int32) (w7 : Nat → Int32) (w8 : Nat → Int32), M_fold (σ.1 3238) (σ.1 3214) (σ.1 3215) (σ.1 3212) (σ.1 3203) (σ.2.2.1 70) (σ.2.2.1 71) (σ.2.2.1 54) (σ.2.2.1 59) = some (r, w0, w1, w2, w3, w4, w5, w6, w7, w8) ∧ σ' = (mkS σ [(3238, w0), (3214, w1), (3215, w2), (3212, w3), (3203, w4)] [] [(70, w5), (71, w6), (54, w7), (59, w8)] [])
theorem eM_fold_cn {σ : St} {r : Int32} {σ' : St} (h : eM_fold σ r σ') (l : Launch) (g : GC) : Cn l g yX9_fold (Cond.code yX9_fold cX9_fold 4 (some .int) :: wG) 4 91 [.ref (g.2.1 50)] σ (some (.int r)) σ' := by
  obtain ⟨w0, w1, w2, w3, w4, w5, w6, w7, w8, h1, rfl⟩ := h
  exact c_M_fold l g _ r w0 w1 w2 w3 w4 w5 w6 w7 w8 h1
def eL_half  (σ : St) (r : Int32) (σ' : St) : Prop :=
  ∃ (w0 : Int32) (w1 : Int32) (w2 : Int32) (w3 : Int32) (w4 : Int32) (w5 : Int32) (w6 : Int32) (w7 : Int32) (w8 : Int32) (w9 : Nat → Int32) (w10 : Nat → Int32) (w11 : Nat → Int32) (w12 : Nat → Int32) (w13 : Nat → Int32) (w14 : Nat → Int32), LN_half (σ.1 1539) (σ.1 769) (σ.1 641) (σ.1 2632) (σ.1 2372) (σ.1 1286) (σ.1 1283) (σ.1 1285) (σ.1 1284) (σ.2.2.1 16) (σ.2.2.1 13) (σ.2.2.1 11) (σ.2.2.1 22) (σ.2.2.1 23) (σ.2.2.1 21) = some (r, w0, w1, w2, w3, w4, w5, w6, w7, w8, w9, w10, w11, w12, w13, w14) ∧ σ' = (mkS σ [(1539, w0), (769, w1), (641, w2), (2632, w3), (2372, w4), (1286, w5), (1283, w6), (1285, w7), (1284, w8)] [] [(16, w9), (13, w10), (11, w11), (22, w12), (23, w13), (21, w14)] [])
theorem eL_half_cn {σ : St} {r : Int32} {σ' : St} (h : eL_half σ r σ') (l : Launch) (g : GC) : Cn l g yX8_half (Cond.code yX8_half cX8_half 4 (some .int) :: wG) 5 114 [.ref (g.2.1 0)] σ (some (.int r)) σ' := by
  obtain ⟨w0, w1, w2, w3, w4, w5, w6, w7, w8, w9, w10, w11, w12, w13, w14, h1, rfl⟩ := h
  exact c_LN_half l g _ r w0 w1 w2 w3 w4 w5 w6 w7 w8 w9 w10 w11 w12 w13 w14 h1
def eM_half  (σ : St) (r : Int32) (σ' : St) : Prop :=
  ∃ (w0 : Int32) (w1 : Int32) (w2 : Int32) (w3 : Int32) (w4 : Int32) (w5 : Nat → Int32) (w6 : Nat → Int32) (w7 : Nat → Int32) (w8 : Nat → Int32), M_half (σ.1 3238) (σ.1 3214) (σ.1 3215) (σ.1 3212) (σ.1 3203) (σ.2.2.1 70) (σ.2.2.1 71) (σ.2.2.1 54) (σ.2.2.1 59) = some (r, w0, w1, w2, w3, w4, w5, w6, w7, w8) ∧ σ' = (mkS σ [(3238, w0), (3214, w1), (3215, w2), (3212, w3), (3203, w4)] [] [(70, w5), (71, w6), (54, w7), (59, w8)] [])
theorem eM_half_cn {σ : St} {r : Int32} {σ' : St} (h : eM_half σ r σ') (l : Launch) (g : GC) : Cn l g yX9_half (Cond.code yX9_half cX9_half 4 (some .int) :: wG) 3 72 [.ref (g.2.1 50)] σ (some (.int r)) σ' := by
  obtain ⟨w0, w1, w2, w3, w4, w5, w6, w7, w8, h1, rfl⟩ := h
  exact c_M_half l g _ r w0 w1 w2 w3 w4 w5 w6 w7 w8 h1
def eL_twice  (σ : St) (r : Int32) (σ' : St) : Prop :=
  ∃ (w0 : Int32) (w1 : Int32) (w2 : Int32) (w3 : Int32) (w4 : Int32) (w5 : Int32) (w6 : Nat → Int32) (w7 : Nat → Int32), LN_twice (σ.1 1539) (σ.1 769) (σ.1 641) (σ.1 2632) (σ.1 2372) (σ.1 1283) (σ.2.2.1 13) (σ.2.2.1 11) = some (r, w0, w1, w2, w3, w4, w5, w6, w7) ∧ σ' = (mkS σ [(1539, w0), (769, w1), (641, w2), (2632, w3), (2372, w4), (1283, w5)] [] [(13, w6), (11, w7)] [])
theorem eL_twice_cn {σ : St} {r : Int32} {σ' : St} (h : eL_twice σ r σ') (l : Launch) (g : GC) : Cn l g yX8_twice (Cond.code yX8_twice cX8_twice 4 (some .int) :: wG) 3 101 [.ref (g.2.1 0)] σ (some (.int r)) σ' := by
  obtain ⟨w0, w1, w2, w3, w4, w5, w6, w7, h1, rfl⟩ := h
  exact c_LN_twice l g _ r w0 w1 w2 w3 w4 w5 w6 w7 h1
def eM_twice  (σ : St) (r : Int32) (σ' : St) : Prop :=
  ∃ (w0 : Int32) (w1 : Int32) (w2 : Int32) (w3 : Nat → Int32) (w4 : Nat → Int32), M_twice (σ.1 3238) (σ.1 3212) (σ.1 3203) (σ.2.2.1 70) (σ.2.2.1 54) = some (r, w0, w1, w2, w3, w4) ∧ σ' = (mkS σ [(3238, w0), (3212, w1), (3203, w2)] [] [(70, w3), (54, w4)] [])
theorem eM_twice_cn {σ : St} {r : Int32} {σ' : St} (h : eM_twice σ r σ') (l : Launch) (g : GC) : Cn l g yX9_twice (Cond.code yX9_twice cX9_twice 3 (some .int) :: wG) 1 22 [.ref (g.2.1 50)] σ (some (.int r)) σ' := by
  obtain ⟨w0, w1, w2, w3, w4, h1, rfl⟩ := h
  exact c_M_twice l g _ r w0 w1 w2 w3 w4 h1
def eL_power (x1 : Int32) (σ : St) (r : Int32) (σ' : St) : Prop :=
  ∃ (w0 : Int32) (w1 : Int32) (w2 : Int32) (w3 : Int32) (w4 : Int32) (w5 : Int32) (w6 : Int32) (w7 : Int32) (w8 : Int32) (w9 : Nat → Int32) (w10 : Nat → Int32) (w11 : Nat → Int32) (w12 : Nat → Int32) (w13 : Nat → Int32), LN_power x1 (σ.1 1539) (σ.1 769) (σ.1 641) (σ.1 2632) (σ.1 2372) (σ.1 1286) (σ.1 1283) (σ.1 1285) (σ.1 1284) (σ.2.2.1 13) (σ.2.2.1 11) (σ.2.2.1 22) (σ.2.2.1 23) (σ.2.2.1 21) = some (r, w0, w1, w2, w3, w4, w5, w6, w7, w8, w9, w10, w11, w12, w13) ∧ σ' = (mkS σ [(1539, w0), (769, w1), (641, w2), (2632, w3), (2372, w4), (1286, w5), (1283, w6), (1285, w7), (1284, w8)] [] [(13, w9), (11, w10), (22, w11), (23, w12), (21, w13)] [])
theorem eL_power_cn {x1 : Int32} {σ : St} {r : Int32} {σ' : St} (h : eL_power x1 σ r σ') (l : Launch) (g : GC) : Cn l g yX8_power (Cond.code yX8_power cX8_power 4 (some .int) :: wG) 5 114 [.ref (g.2.1 0), .int x1] σ (some (.int r)) σ' := by
  obtain ⟨w0, w1, w2, w3, w4, w5, w6, w7, w8, w9, w10, w11, w12, w13, h1, rfl⟩ := h
  exact c_LN_power l g _ x1 r w0 w1 w2 w3 w4 w5 w6 w7 w8 w9 w10 w11 w12 w13 h1
def eM_power (x1 : Int32) (σ : St) (r : Int32) (σ' : St) : Prop :=
  ∃ (w0 : Int32) (w1 : Int32) (w2 : Int32) (w3 : Int32) (w4 : Int32) (w5 : Nat → Int32) (w6 : Nat → Int32) (w7 : Nat → Int32), M_power x1 (σ.1 3238) (σ.1 3214) (σ.1 3215) (σ.1 3212) (σ.1 3203) (σ.2.2.1 70) (σ.2.2.1 54) (σ.2.2.1 59) = some (r, w0, w1, w2, w3, w4, w5, w6, w7) ∧ σ' = (mkS σ [(3238, w0), (3214, w1), (3215, w2), (3212, w3), (3203, w4)] [] [(70, w5), (54, w6), (59, w7)] [])
theorem eM_power_cn {x1 : Int32} {σ : St} {r : Int32} {σ' : St} (h : eM_power x1 σ r σ') (l : Launch) (g : GC) : Cn l g yX9_power_ (Cond.code yX9_power_ cX9_power_ 4 (some .int) :: wG) 2 47 [.ref (g.2.1 50), .int x1] σ (some (.int r)) σ' := by
  obtain ⟨w0, w1, w2, w3, w4, w5, w6, w7, h1, rfl⟩ := h
  exact c_M_power l g _ x1 r w0 w1 w2 w3 w4 w5 w6 w7 h1
def eL_other  (σ : St) (r : Int32) (σ' : St) : Prop :=
  ∃ (w0 : Int32) (w1 : Int32) (w2 : Int32) (w3 : Int32) (w4 : Int32) (w5 : Int32) (w6 : Nat → Int32) (w7 : Nat → Int32), LN_other (σ.1 1539) (σ.1 769) (σ.1 641) (σ.1 2632) (σ.1 2372) (σ.1 1283) (σ.2.2.1 13) (σ.2.2.1 11) = some (r, w0, w1, w2, w3, w4, w5, w6, w7) ∧ σ' = (mkS σ [(1539, w0), (769, w1), (641, w2), (2632, w3), (2372, w4), (1283, w5)] [] [(13, w6), (11, w7)] [])
theorem eL_other_cn {σ : St} {r : Int32} {σ' : St} (h : eL_other σ r σ') (l : Launch) (g : GC) : Cn l g yX8_other (Cond.code yX8_other cX8_other 3 (some .int) :: wG) 3 101 [.ref (g.2.1 0)] σ (some (.int r)) σ' := by
  obtain ⟨w0, w1, w2, w3, w4, w5, w6, w7, h1, rfl⟩ := h
  exact c_LN_other l g _ r w0 w1 w2 w3 w4 w5 w6 w7 h1
def eM_other  (σ : St) (r : Int32) (σ' : St) : Prop :=
  ∃ (w0 : Int32) (w1 : Int32) (w2 : Int32) (w3 : Nat → Int32) (w4 : Nat → Int32), M_other (σ.1 3238) (σ.1 3212) (σ.1 3203) (σ.2.2.1 70) (σ.2.2.1 54) = some (r, w0, w1, w2, w3, w4) ∧ σ' = (mkS σ [(3238, w0), (3212, w1), (3203, w2)] [] [(70, w3), (54, w4)] [])
theorem eM_other_cn {σ : St} {r : Int32} {σ' : St} (h : eM_other σ r σ') (l : Launch) (g : GC) : Cn l g yX9_other (Cond.code yX9_other cX9_other 3 (some .int) :: wG) 2 45 [.ref (g.2.1 50)] σ (some (.int r)) σ' := by
  obtain ⟨w0, w1, w2, w3, w4, h1, rfl⟩ := h
  exact c_M_other l g _ r w0 w1 w2 w3 w4 h1
def eL_lines  (σ : St) (r : Int32) (σ' : St) : Prop :=
  ∃ (w0 : Int32) (w1 : Int32) (w2 : Int32) (w3 : Int32) (w4 : Int32) (w5 : Int32) (w6 : Nat → Int32) (w7 : Nat → Int32) (w8 : Nat → Int32) (w9 : Nat → Int32), LN_lines (σ.1 1539) (σ.1 769) (σ.1 641) (σ.1 2632) (σ.1 2372) (σ.1 1283) (σ.2.2.1 16) (σ.2.2.1 13) (σ.2.2.1 11) (σ.2.2.1 17) = some (r, w0, w1, w2, w3, w4, w5, w6, w7, w8, w9) ∧ σ' = (mkS σ [(1539, w0), (769, w1), (641, w2), (2632, w3), (2372, w4), (1283, w5)] [] [(16, w6), (13, w7), (11, w8), (17, w9)] [])
theorem eL_lines_cn {σ : St} {r : Int32} {σ' : St} (h : eL_lines σ r σ') (l : Launch) (g : GC) : Cn l g yX8_lines (Cond.code yX8_lines cX8_lines 4 (some .int) :: wG) 3 101 [.ref (g.2.1 0)] σ (some (.int r)) σ' := by
  obtain ⟨w0, w1, w2, w3, w4, w5, w6, w7, w8, w9, h1, rfl⟩ := h
  exact c_LN_lines l g _ r w0 w1 w2 w3 w4 w5 w6 w7 w8 w9 h1
def eM_lines  (σ : St) (r : Int32) (σ' : St) : Prop :=
  ∃ (w0 : Int32) (w1 : Int32) (w2 : Int32) (w3 : Nat → Int32) (w4 : Nat → Int32) (w5 : Nat → Int32) (w6 : Nat → Int32), M_lines (σ.1 3238) (σ.1 3212) (σ.1 3203) (σ.2.2.1 72) (σ.2.2.1 73) (σ.2.2.1 70) (σ.2.2.1 54) = some (r, w0, w1, w2, w3, w4, w5, w6) ∧ σ' = (mkS σ [(3238, w0), (3212, w1), (3203, w2)] [] [(72, w3), (73, w4), (70, w5), (54, w6)] [])
theorem eM_lines_cn {σ : St} {r : Int32} {σ' : St} (h : eM_lines σ r σ') (l : Launch) (g : GC) : Cn l g yX9_lines (Cond.code yX9_lines cX9_lines 5 (some .int) :: wG) 2 45 [.ref (g.2.1 50)] σ (some (.int r)) σ' := by
  obtain ⟨w0, w1, w2, w3, w4, w5, w6, h1, rfl⟩ := h
  exact c_M_lines l g _ r w0 w1 w2 w3 w4 w5 w6 h1
def eL_keep  (σ : St) (r : Int32) (σ' : St) : Prop :=
  ∃ (w0 : Int32) (w1 : Int32) (w2 : Nat → Int32), LN_keep (σ.1 12) (σ.1 641) (σ.1 897) (σ.2.2.1 11) (σ.2.2.1 15) = some (r, w0, w1, w2) ∧ σ' = (mkS σ [(12, w0), (897, w1)] [] [(15, w2)] [])
theorem eL_keep_cn {σ : St} {r : Int32} {σ' : St} (h : eL_keep σ r σ') (l : Launch) (g : GC) : Cn l g yX8_keep (Cond.code yX8_keep cX8_keep 1 (some .int) :: wG) 2 81 [.ref (g.2.1 0)] σ (some (.int r)) σ' := by
  obtain ⟨w0, w1, w2, h1, rfl⟩ := h
  exact c_LN_keep l g _ r w0 w1 w2 h1
def eM_keep  (σ : St) (r : Int32) (σ' : St) : Prop :=
  ∃ (w0 : Int32) (w1 : Int32) (w2 : Nat → Int32), M_keep (σ.1 3205) (σ.1 3206) (σ.1 3203) (σ.2.2.1 55) (σ.2.2.1 54) = some (r, w0, w1, w2) ∧ σ' = (mkS σ [(3205, w0), (3206, w1)] [] [(55, w2)] [])
theorem eM_keep_cn {σ : St} {r : Int32} {σ' : St} (h : eM_keep σ r σ') (l : Launch) (g : GC) : Cn l g yX9_keep (Cond.code yX9_keep cX9_keep 2 (some .int) :: wG) 0 0 [.ref (g.2.1 50)] σ (some (.int r)) σ' := by
  obtain ⟨w0, w1, w2, h1, rfl⟩ := h
  exact c_M_keep l g _ r w0 w1 w2 h1
def eL_back  (σ : St) (r : Int32) (σ' : St) : Prop :=
  ∃ (w0 : Int32) (w1 : Int32) (w2 : Int32) (w3 : Int32) (w4 : Int32) (w5 : Nat → Int32), LN_back (σ.1 12) (σ.1 1539) (σ.1 641) (σ.1 2632) (σ.1 2372) (σ.1 897) (σ.1 1283) (σ.2.2.1 11) (σ.2.2.1 15) = some (r, w0, w1, w2, w3, w4, w5) ∧ σ' = (mkS σ [(1539, w0), (641, w1), (2632, w2), (2372, w3), (1283, w4)] [] [(11, w5)] [])
theorem eL_back_cn {σ : St} {r : Int32} {σ' : St} (h : eL_back σ r σ') (l : Launch) (g : GC) : Cn l g yX8_back (Cond.code yX8_back cX8_back 1 (some .int) :: wG) 2 81 [.ref (g.2.1 0)] σ (some (.int r)) σ' := by
  obtain ⟨w0, w1, w2, w3, w4, w5, h1, rfl⟩ := h
  exact c_LN_back l g _ r w0 w1 w2 w3 w4 w5 h1
def eM_back  (σ : St) (r : Int32) (σ' : St) : Prop :=
  ∃ (w0 : Int32) (w1 : Int32) (w2 : Int32) (w3 : Nat → Int32) (w4 : Nat → Int32), M_back (σ.1 3238) (σ.1 3205) (σ.1 3212) (σ.1 3206) (σ.1 3203) (σ.2.2.1 55) (σ.2.2.1 70) (σ.2.2.1 54) = some (r, w0, w1, w2, w3, w4) ∧ σ' = (mkS σ [(3238, w0), (3212, w1), (3203, w2)] [] [(70, w3), (54, w4)] [])
theorem eM_back_cn {σ : St} {r : Int32} {σ' : St} (h : eM_back σ r σ') (l : Launch) (g : GC) : Cn l g yX9_back (Cond.code yX9_back cX9_back 2 (some .int) :: wG) 1 22 [.ref (g.2.1 50)] σ (some (.int r)) σ' := by
  obtain ⟨w0, w1, w2, w3, w4, h1, rfl⟩ := h
  exact c_M_back l g _ r w0 w1 w2 w3 w4 h1
def eL_perfect (x1 : Int32) (σ : St) (r : Int32) (σ' : St) : Prop :=
  ∃ (w0 : Int32) (w1 : Int32) (w2 : Int32) (w3 : Int32) (w4 : Int32) (w5 : Int32) (w6 : Int32) (w7 : Nat → Int32) (w8 : Nat → Int32) (w9 : Nat → Int32) (w10 : Nat → Int32) (w11 : Nat → Int32) (w12 : Nat → Int32), LN_perfect x1 (σ.1 641) (σ.1 2373) (σ.1 2372) (σ.1 2371) (σ.1 1286) (σ.1 1283) (σ.1 1285) (σ.1 1284) (σ.2.2.1 11) (σ.2.2.1 38) (σ.2.2.1 39) (σ.2.2.1 40) (σ.2.2.1 22) (σ.2.2.1 23) (σ.2.2.1 21) = some (r, w0, w1, w2, w3, w4, w5, w6, w7, w8, w9, w10, w11, w12) ∧ σ' = (mkS σ [(2373, w0), (2372, w1), (2371, w2), (1286, w3), (1283, w4), (1285, w5), (1284, w6)] [] [(38, w7), (39, w8), (40, w9), (22, w10), (23, w11), (21, w12)] [])
theorem eL_perfect_cn {x1 : Int32} {σ : St} {r : Int32} {σ' : St} (h : eL_perfect x1 σ r σ') (l : Launch) (g : GC) : Cn l g yX8_perfect (Cond.code yX8_perfect cX8_perfect 2 (some .int) :: wG) 5 114 [.ref (g.2.1 0), .int x1] σ (some (.int r)) σ' := by
  obtain ⟨w0, w1, w2, w3, w4, w5, w6, w7, w8, w9, w10, w11, w12, h1, rfl⟩ := h
  exact c_LN_perfect l g _ x1 r w0 w1 w2 w3 w4 w5 w6 w7 w8 w9 w10 w11 w12 h1
def eM_perfect (x1 : Int32) (σ : St) (r : Int32) (σ' : St) : Prop :=
  ∃ (w0 : Int32) (w1 : Int32) (w2 : Int32) (w3 : Int32) (w4 : Nat → Int32) (w5 : Nat → Int32) (w6 : Nat → Int32) (w7 : Nat → Int32) (w8 : Nat → Int32), M_perfect x1 (σ.1 3214) (σ.1 3215) (σ.1 3212) (σ.1 3203) (σ.1 3235) (σ.2.2.1 77) (σ.2.2.1 76) (σ.2.2.1 54) (σ.2.2.1 74) (σ.2.2.1 75) (σ.2.2.1 59) = some (r, w0, w1, w2, w3, w4, w5, w6, w7, w8) ∧ σ' = (mkS σ [(3214, w0), (3215, w1), (3212, w2), (3235, w3)] [] [(77, w4), (76, w5), (74, w6), (75, w7), (59, w8)] [])
theorem eM_perfect_cn {x1 : Int32} {σ : St} {r : Int32} {σ' : St} (h : eM_perfect x1 σ r σ') (l : Launch) (g : GC) : Cn l g yX9_perfect (Cond.code yX9_perfect cX9_perfect 3 (some .int) :: wG) 3 71 [.ref (g.2.1 50), .int x1] σ (some (.int r)) σ' := by
  obtain ⟨w0, w1, w2, w3, w4, w5, w6, w7, w8, h1, rfl⟩ := h
  exact c_M_perfect l g _ x1 r w0 w1 w2 w3 w4 w5 w6 w7 w8 h1
def eL_heap (x1 : Int32) (x2 : Int32) (σ : St) (r : Int32) (σ' : St) : Prop :=
  ∃ (w0 : Int32) (w1 : Int32) (w2 : Int32) (w3 : Int32) (w4 : Int32) (w5 : Int32) (w6 : Int32) (w7 : Nat → Int32) (w8 : Nat → Int32) (w9 : Nat → Int32) (w10 : Nat → Int32) (w11 : Nat → Int32) (w12 : Nat → Int32), LN_heap x1 x2 (σ.1 641) (σ.1 2373) (σ.1 2372) (σ.1 2371) (σ.1 1286) (σ.1 1283) (σ.1 1285) (σ.1 1284) (σ.2.2.1 11) (σ.2.2.1 38) (σ.2.2.1 39) (σ.2.2.1 40) (σ.2.2.1 22) (σ.2.2.1 23) (σ.2.2.1 21) = some (r, w0, w1, w2, w3, w4, w5, w6, w7, w8, w9, w10, w11, w12) ∧ σ' = (mkS σ [(2373, w0), (2372, w1), (2371, w2), (1286, w3), (1283, w4), (1285, w5), (1284, w6)] [] [(38, w7), (39, w8), (40, w9), (22, w10), (23, w11), (21, w12)] [])
theorem eL_heap_cn {x1 x2 : Int32} {σ : St} {r : Int32} {σ' : St} (h : eL_heap x1 x2 σ r σ') (l : Launch) (g : GC) : Cn l g yX8_heap (Cond.code yX8_heap cX8_heap 4 (some .int) :: wG) 6 135 [.ref (g.2.1 0), .int x1, .int x2] σ (some (.int r)) σ' := by
  obtain ⟨w0, w1, w2, w3, w4, w5, w6, w7, w8, w9, w10, w11, w12, h1, rfl⟩ := h
  exact c_LN_heap l g _ x1 x2 r w0 w1 w2 w3 w4 w5 w6 w7 w8 w9 w10 w11 w12 h1
def eM_heap (x1 : Int32) (x2 : Int32) (σ : St) (r : Int32) (σ' : St) : Prop :=
  ∃ (w0 : Int32) (w1 : Int32) (w2 : Int32) (w3 : Int32) (w4 : Nat → Int32) (w5 : Nat → Int32) (w6 : Nat → Int32) (w7 : Nat → Int32) (w8 : Nat → Int32), M_heap x1 x2 (σ.1 3214) (σ.1 3215) (σ.1 3212) (σ.1 3203) (σ.1 3235) (σ.2.2.1 77) (σ.2.2.1 76) (σ.2.2.1 54) (σ.2.2.1 74) (σ.2.2.1 75) (σ.2.2.1 59) = some (r, w0, w1, w2, w3, w4, w5, w6, w7, w8) ∧ σ' = (mkS σ [(3214, w0), (3215, w1), (3212, w2), (3235, w3)] [] [(77, w4), (76, w5), (74, w6), (75, w7), (59, w8)] [])
theorem eM_heap_cn {x1 x2 : Int32} {σ : St} {r : Int32} {σ' : St} (h : eM_heap x1 x2 σ r σ') (l : Launch) (g : GC) : Cn l g yX9_heap (Cond.code yX9_heap cX9_heap 4 (some .int) :: wG) 3 71 [.ref (g.2.1 50), .int x1, .int x2] σ (some (.int r)) σ' := by
  obtain ⟨w0, w1, w2, w3, w4, w5, w6, w7, w8, h1, rfl⟩ := h
  exact c_M_heap l g _ x1 x2 r w0 w1 w2 w3 w4 w5 w6 w7 w8 h1
def eL_kinds  (σ : St) (r : Int32) (σ' : St) : Prop :=
  ∃ (w0 : Int32) (w1 : Int32) (w2 : Int32) (w3 : Nat → Int32) (w4 : Nat → Int32) (w5 : Nat → Int32) (w6 : Nat → Int32) (w7 : Nat → Int32) (w8 : Nat → Int32) (w9 : Nat → Int32) (w10 : Nat → Int64), LN_kinds (σ.1 641) (σ.1 2634) (σ.1 2632) (σ.1 2633) (σ.2.2.1 11) (σ.2.2.1 44) (σ.2.2.1 45) (σ.2.2.1 48) (σ.2.2.1 46) (σ.2.2.1 49) (σ.2.2.1 43) (σ.2.2.1 42) (σ.2.2.2 47) = some (r, w0, w1, w2, w3, w4, w5, w6, w7, w8, w9, w10) ∧ σ' = (mkS σ [(2634, w0), (2632, w1), (2633, w2)] [] [(44, w3), (45, w4), (48, w5), (46, w6), (49, w7), (43, w8), (42, w9)] [(47, w10)])
theorem eL_kinds_cn {σ : St} {r : Int32} {σ' : St} (h : eL_kinds σ r σ') (l : Launch) (g : GC) : Cn l g yX8_kinds (Cond.code yX8_kinds cX8_kinds 1 (some .int) :: wG) 6 150 [.ref (g.2.1 0)] σ (some (.int r)) σ' := by
  obtain ⟨w0, w1, w2, w3, w4, w5, w6, w7, w8, w9, w10, h1, rfl⟩ := h
  exact c_LN_kinds l g _ r w0 w1 w2 w3 w4 w5 w6 w7 w8 w9 w10 h1
def eM_kinds  (σ : St) (r : Int32) (σ' : St) : Prop :=
  ∃ (w0 : Int32) (w1 : Int32) (w2 : Nat → Int32) (w3 : Nat → Int32) (w4 : Nat → Int32) (w5 : Nat → Int32), M_kinds (σ.1 3238) (σ.1 3242) (σ.1 3203) (σ.2.2.1 81) (σ.2.2.1 78) (σ.2.2.1 79) (σ.2.2.1 54) (σ.2.2.1 80) = some (r, w0, w1, w2, w3, w4, w5) ∧ σ' = (mkS σ [(3238, w0), (3242, w1)] [] [(81, w2), (78, w3), (79, w4), (80, w5)] [])
theorem eM_kinds_cn {σ : St} {r : Int32} {σ' : St} (h : eM_kinds σ r σ') (l : Launch) (g : GC) : Cn l g yX9_kinds (Cond.code yX9_kinds cX9_kinds 1 (some .int) :: wG) 3 72 [.ref (g.2.1 50)] σ (some (.int r)) σ' := by
  obtain ⟨w0, w1, w2, w3, w4, w5, h1, rfl⟩ := h
  exact c_M_kinds l g _ r w0 w1 w2 w3 w4 w5 h1
def eL_kind (x1 : Int32) (x2 : Int32) (σ : St) (r : Int32) (σ' : St) : Prop :=
  ∃ (w0 : Int32) (w1 : Int32) (w2 : Int32) (w3 : Nat → Int32) (w4 : Nat → Int32) (w5 : Nat → Int32) (w6 : Nat → Int32) (w7 : Nat → Int32) (w8 : Nat → Int32) (w9 : Nat → Int32) (w10 : Nat → Int64), LN_kind x1 x2 (σ.1 641) (σ.1 2634) (σ.1 2632) (σ.1 2633) (σ.2.2.1 11) (σ.2.2.1 44) (σ.2.2.1 45) (σ.2.2.1 48) (σ.2.2.1 46) (σ.2.2.1 49) (σ.2.2.1 43) (σ.2.2.1 42) (σ.2.2.2 47) = some (r, w0, w1, w2, w3, w4, w5, w6, w7, w8, w9, w10) ∧ σ' = (mkS σ [(2634, w0), (2632, w1), (2633, w2)] [] [(44, w3), (45, w4), (48, w5), (46, w6), (49, w7), (43, w8), (42, w9)] [(47, w10)])
theorem eL_kind_cn {x1 x2 : Int32} {σ : St} {r : Int32} {σ' : St} (h : eL_kind x1 x2 σ r σ') (l : Launch) (g : GC) : Cn l g yX8_kind (Cond.code yX8_kind cX8_kind 3 (some .int) :: wG) 6 150 [.ref (g.2.1 0), .int x1, .int x2] σ (some (.int r)) σ' := by
  obtain ⟨w0, w1, w2, w3, w4, w5, w6, w7, w8, w9, w10, h1, rfl⟩ := h
  exact c_LN_kind l g _ x1 x2 r w0 w1 w2 w3 w4 w5 w6 w7 w8 w9 w10 h1
def eM_kind (x1 : Int32) (x2 : Int32) (σ : St) (r : Int32) (σ' : St) : Prop :=
  ∃ (w0 : Int32) (w1 : Int32) (w2 : Nat → Int32) (w3 : Nat → Int32) (w4 : Nat → Int32) (w5 : Nat → Int32), M_kind x1 x2 (σ.1 3238) (σ.1 3242) (σ.1 3203) (σ.2.2.1 81) (σ.2.2.1 78) (σ.2.2.1 79) (σ.2.2.1 54) (σ.2.2.1 80) = some (r, w0, w1, w2, w3, w4, w5) ∧ σ' = (mkS σ [(3238, w0), (3242, w1)] [] [(81, w2), (78, w3), (79, w4), (80, w5)] [])
theorem eM_kind_cn {x1 x2 : Int32} {σ : St} {r : Int32} {σ' : St} (h : eM_kind x1 x2 σ r σ') (l : Launch) (g : GC) : Cn l g yX9_kind (Cond.code yX9_kind cX9_kind 3 (some .int) :: wG) 3 72 [.ref (g.2.1 50), .int x1, .int x2] σ (some (.int r)) σ' := by
  obtain ⟨w0, w1, w2, w3, w4, w5, h1, rfl⟩ := h
  exact c_M_kind l g _ x1 x2 r w0 w1 w2 w3 w4 w5 h1
def LWd (g : GC) (s : State) (σ : St) (H : Heap) (locs : List Loc) : Prop := va_P g.1 vwCl (g_cells g σ) H ∧ va_S (fun q => s.heap.size ≤ q) s.heap H locs
section LX
variable {p : Program} {l : Launch} {e : Env} {R : Room} {s : State} {m : MethodId} {args : Array Value} {below : List Frame} {meth : Method} {c : Code} {H : Heap} {locs : List Loc} {cells slots : Nat} {Q : State → Prop}
variable {cc : ByteArray} {pc : Nat} {ls : Array Slot} {rest : List Value} {g : GC} {σ σ' : St}
variable {y : MethodName} {bytes : ByteArray} {maxL nL n index fr lo : Nat} {ret : Option FieldType} {ws Ts : List Cond} {own C : String} {As : List Value} {r : Option Value} {st0 : List Value}
theorem lx_cV (S : CallFix p m c cc nL s args Ts own) {k ci : Nat} {q : vw_C} {fs : List Value} (hM : Cn l g y ws fr lo (.ref (g.2.1 k) :: As) σ r σ') (cw : CallW R s args own C index y bytes maxL ret ws { frames := fr, cells := 0, slots := 0, locals := lo } 0 0 n) (hK : g_K g s) (hA : ∀ q, g_A g q → s.heap.size ≤ q) (hG : LWd g s σ H locs) (he : (g_cells g σ)[k]? = some (g.2.1 k, .inr (ci, fs))) (hc : vwCl[ci]? = some q) (hC : q.1 = C) (hn : As.length = n) (hsz : ls.size = nL) (hst : st0 = As.reverse ++ .ref (g.2.1 k) :: rest) (hW : (rest.map fun v => v.category).sum ≤ 8) (hdg : decode cc pc = .ok (.invokevirtual index, 3)) (hcs : cells + 0 ≤ R.cells ∧ slots + 0 ≤ R.slots)
    (kk : ∀ (H1 : Heap) (locs1 : List Loc), LWd g s σ' H1 locs1 → W p l e R s m args below meth c H1 locs1 cells slots Q (F0 m (pc + 3) ls (r.toList ++ rest))) : W p l e R s m args below meth c H locs cells slots Q (F0 m pc ls st0) := by
  have hrv : ∃ cell : Cell, H[g.2.1 k]? = some cell ∧ cell.vm.isStatics = false ∧ s.vm.findClass C = some cell.cls := by
    rw [← hC]
    exact va_recv hK.1 hG.1 hc he
  have hr := va_runV (g := F0 m pc ls st0) (C := C) (b := g.2.1 k) (below := below) (e := e) (meth := meth) (locs := locs) (cells := cells) (slots := slots) S hM cw ⟨g_blind _ _ _, hrv, fun U hU hw => ⟨rfl, by rw [hU]; exact hG.1, g_K.warm hw hK⟩⟩ rfl hn hsz hst (lv_room hW) hdg hcs
  intro T hT X
  obtain ⟨v, st₀, t, T', L, h0, X', hL, e1, e2, ⟨hv, hp, hz, hk⟩, st⟩ := hr T hT X
  cases hv
  rw [h0] at hz hk
  obtain ⟨t2, a1, b1⟩ := kk T'.heap (locs ++ L) ⟨by rw [e1]; exact hp, Nat.le_trans hG.2.1 (by rw [e1]; exact hz), fun q h1 h2 => by rw [e1, hk q (Nat.lt_of_lt_of_le h1 hG.2.1) (fun z => h2 (hA q z))]; exact hG.2.2.1 q h1 h2, fun q hq => (List.mem_append.mp hq).elim (hG.2.2.2 q) (fun h => hA _ (hL q h))⟩ T' rfl X'
  exact ⟨t2, st t2 a1, b1⟩
end LX
theorem la_in {k L j : Nat} {v : Int32} (hv : v = nI j) (h : k + j < L) (hL : L ≤ 2560) : vp_in (nI k + v) L := by
  rw [hv, nI_add]
  exact vp_in_nI h (by omega)
theorem la_0 {k L : Nat} (h : k < L) (hL : L ≤ 2560) : vp_in (nI k) L := vp_in_nI h (by omega)
theorem la_inc (k : Nat) : nI k + Int32.ofInt 5 = nI (k + 5) := by
  rw [show Int32.ofInt 5 = nI 5 from rfl, nI_add]
theorem la_out {k L : Nat} (hL : L ≤ 2560) (hk : k ≤ 2565) (h : ¬ Int32.ofNat L - 5 < nI k) : k + 5 ≤ L := by
  rw [Int32.lt_iff_toInt_lt] at h
  have h1 : (Int32.ofNat L - 5 : Int32).toInt = (L : Int) - 5 := by
    have := pk_sub_toInt (a := L) (b := 5) (by omega) (by omega)
    exact this
  rw [h1, nI_toInt (by omega)] at h
  omega
theorem la_cmp (x : Int64) : lg_cmp x x = 0 := by
  unfold lg_cmp
  rw [if_neg (fun h => absurd h (by simp)), if_pos rfl]
