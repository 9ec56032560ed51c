/-! the state of the system as numbers: int fields, long fields, rows of ints, rows of longs; the heap's shape is fixed behind the constructors -/
abbrev St : Type := (Nat → Int32) × (Nat → Int64) × (Nat → Nat → Int32) × (Nat → Nat → Int64)
/-- classes and slots; the address of each cell by its number; the row classes -/
abbrev GC : Type := va_G × (Nat → Nat) × (Nat → ClassId)
def g_cells (g : GC) (σ : St) : va_W := [
  (g.2.1 0, .inr (8, [.ref (g.2.1 1), .ref (g.2.1 10), .ref (g.2.1 12), .ref (g.2.1 14), .ref (g.2.1 16), .ref (g.2.1 17), .ref (g.2.1 18), .ref (g.2.1 20), .ref (g.2.1 24), .ref (g.2.1 28), .ref (g.2.1 37), .ref (g.2.1 41), .int (σ.1 12)])),
  (g.2.1 1, .inl (g.2.2 3, 4, .inr (.inr (.inr (.inr (va_up (va_up (va_up (va_up (fun _ => none) (((0 : Int32) : Int32).toNatClampNeg) (some (g.2.1 2))) (((1 : Int32) : Int32).toNatClampNeg) (some (g.2.1 4))) (((2 : Int32) : Int32).toNatClampNeg) (some (g.2.1 6))) (((3 : Int32) : Int32).toNatClampNeg) (some (g.2.1 8)))))))),
  (g.2.1 2, .inr (5, [.ref (g.2.1 3), .int (σ.1 129), .int (σ.1 130), .int (σ.1 131)])),
  (g.2.1 3, .inl (g.2.2 0, 60, .inl (σ.2.2.1 3))),
  (g.2.1 4, .inr (5, [.ref (g.2.1 5), .int (σ.1 257), .int (σ.1 258), .int (σ.1 259)])),
  (g.2.1 5, .inl (g.2.2 0, 60, .inl (σ.2.2.1 5))),
  (g.2.1 6, .inr (5, [.ref (g.2.1 7), .int (σ.1 385), .int (σ.1 386), .int (σ.1 387)])),
  (g.2.1 7, .inl (g.2.2 0, 60, .inl (σ.2.2.1 7))),
  (g.2.1 8, .inr (5, [.ref (g.2.1 9), .int (σ.1 513), .int (σ.1 514), .int (σ.1 515)])),
  (g.2.1 9, .inl (g.2.2 0, 60, .inl (σ.2.2.1 9))),
  (g.2.1 10, .inr (2, [.ref (g.2.1 11), .int (σ.1 641)])),
  (g.2.1 11, .inl (g.2.2 0, 32, .inl (σ.2.2.1 11))),
  (g.2.1 12, .inr (2, [.ref (g.2.1 13), .int (σ.1 769)])),
  (g.2.1 13, .inl (g.2.2 0, 32, .inl (σ.2.2.1 13))),
  (g.2.1 14, .inr (2, [.ref (g.2.1 15), .int (σ.1 897)])),
  (g.2.1 15, .inl (g.2.2 0, 32, .inl (σ.2.2.1 15))),
  (g.2.1 16, .inl (g.2.2 0, 32, .inl (σ.2.2.1 16))),
  (g.2.1 17, .inl (g.2.2 0, 32, .inl (σ.2.2.1 17))),
  (g.2.1 18, .inr (1, [.ref (g.2.1 19)])),
  (g.2.1 19, .inl (g.2.2 0, 32, .inl (σ.2.2.1 19))),
  (g.2.1 20, .inr (7, [.ref (g.2.1 21), .ref (g.2.1 22), .ref (g.2.1 23), .int (σ.1 1283), .int (σ.1 1284), .int (σ.1 1285), .int (σ.1 1286)])),
  (g.2.1 21, .inl (g.2.2 0, 1024, .inl (σ.2.2.1 21))),
  (g.2.1 22, .inl (g.2.2 0, 1024, .inl (σ.2.2.1 22))),
  (g.2.1 23, .inl (g.2.2 0, 32, .inl (σ.2.2.1 23))),
  (g.2.1 24, .inr (0, [.ref (g.2.1 25), .ref (g.2.1 26), .ref (g.2.1 27), .int (σ.1 1539), .int (σ.1 1540), .int (σ.1 1541), .int (σ.1 1542)])),
  (g.2.1 25, .inl (g.2.2 0, 32, .inl (σ.2.2.1 25))),
  (g.2.1 26, .inl (g.2.2 0, 32, .inl (σ.2.2.1 26))),
  (g.2.1 27, .inl (g.2.2 0, 32, .inl (σ.2.2.1 27))),
  (g.2.1 28, .inr (6, [.ref (g.2.1 29), .ref (g.2.1 30), .ref (g.2.1 31), .ref (g.2.1 32), .ref (g.2.1 33), .ref (g.2.1 34), .ref (g.2.1 35), .ref (g.2.1 36), .int (σ.1 1800), .int (σ.1 1801), .int (σ.1 1802), .long (σ.2.1 1803), .int (σ.1 1804)])),
  (g.2.1 29, .inl (g.2.2 0, 6, .inl (σ.2.2.1 29))),
  (g.2.1 30, .inl (g.2.2 0, 6, .inl (σ.2.2.1 30))),
  (g.2.1 31, .inl (g.2.2 1, 6, .inr (.inl (σ.2.2.2 31)))),
  (g.2.1 32, .inl (g.2.2 1, 216, .inr (.inl (σ.2.2.2 32)))),
  (g.2.1 33, .inl (g.2.2 1, 7, .inr (.inl (σ.2.2.2 33)))),
  (g.2.1 34, .inl (g.2.2 1, 6, .inr (.inl (σ.2.2.2 34)))),
  (g.2.1 35, .inl (g.2.2 0, 6, .inl (σ.2.2.1 35))),
  (g.2.1 36, .inl (g.2.2 0, 6, .inl (σ.2.2.1 36))),
  (g.2.1 37, .inr (4, [.ref (g.2.1 38), .ref (g.2.1 39), .ref (g.2.1 40), .int (σ.1 2371), .int (σ.1 2372), .int (σ.1 2373)])),
  (g.2.1 38, .inl (g.2.2 0, 32, .inl (σ.2.2.1 38))),
  (g.2.1 39, .inl (g.2.2 0, 32, .inl (σ.2.2.1 39))),
  (g.2.1 40, .inl (g.2.2 0, 32, .inl (σ.2.2.1 40))),
  (g.2.1 41, .inr (3, [.ref (g.2.1 42), .ref (g.2.1 43), .ref (g.2.1 44), .ref (g.2.1 45), .ref (g.2.1 46), .ref (g.2.1 47), .ref (g.2.1 48), .ref (g.2.1 49), .int (σ.1 2632), .int (σ.1 2633), .int (σ.1 2634)])),
  (g.2.1 42, .inl (g.2.2 0, 1024, .inl (σ.2.2.1 42))),
  (g.2.1 43, .inl (g.2.2 0, 1024, .inl (σ.2.2.1 43))),
  (g.2.1 44, .inl (g.2.2 0, 1024, .inl (σ.2.2.1 44))),
  (g.2.1 45, .inl (g.2.2 0, 1024, .inl (σ.2.2.1 45))),
  (g.2.1 46, .inl (g.2.2 0, 1024, .inl (σ.2.2.1 46))),
  (g.2.1 47, .inl (g.2.2 1, 1024, .inr (.inl (σ.2.2.2 47)))),
  (g.2.1 48, .inl (g.2.2 0, 32, .inl (σ.2.2.1 48))),
  (g.2.1 49, .inl (g.2.2 0, 32, .inl (σ.2.2.1 49))),
  (g.2.1 50, .inr (9, [.ref (g.2.1 51), .ref (g.2.1 52), .ref (g.2.1 53), .int (σ.1 3203), .ref (g.2.1 54), .int (σ.1 3205), .int (σ.1 3206), .ref (g.2.1 55), .int (σ.1 3208), .ref (g.2.1 56), .ref (g.2.1 57), .ref (g.2.1 58), .int (σ.1 3212), .ref (g.2.1 59), .int (σ.1 3214), .int (σ.1 3215), .ref (g.2.1 60), .ref (g.2.1 61), .ref (g.2.1 62), .ref (g.2.1 63), .ref (g.2.1 64), .int (σ.1 3221), .int (σ.1 3222), .ref (g.2.1 65), .long (σ.2.1 3224), .ref (g.2.1 66), .ref (g.2.1 67), .ref (g.2.1 68), .ref (g.2.1 69), .ref (g.2.1 70), .ref (g.2.1 71), .ref (g.2.1 72), .ref (g.2.1 73), .ref (g.2.1 74), .ref (g.2.1 75), .int (σ.1 3235), .ref (g.2.1 76), .ref (g.2.1 77), .int (σ.1 3238), .ref (g.2.1 78), .ref (g.2.1 79), .ref (g.2.1 80), .int (σ.1 3242), .ref (g.2.1 81)])),
  (g.2.1 51, .inl (g.2.2 0, 4, .inl (σ.2.2.1 51))),
  (g.2.1 52, .inl (g.2.2 0, 4, .inl (σ.2.2.1 52))),
  (g.2.1 53, .inl (g.2.2 0, 240, .inl (σ.2.2.1 53))),
  (g.2.1 54, .inl (g.2.2 2, 1024, .inl (σ.2.2.1 54))),
  (g.2.1 55, .inl (g.2.2 2, 1024, .inl (σ.2.2.1 55))),
  (g.2.1 56, .inl (g.2.2 0, 6, .inl (σ.2.2.1 56))),
  (g.2.1 57, .inl (g.2.2 0, 6, .inl (σ.2.2.1 57))),
  (g.2.1 58, .inl (g.2.2 0, 33, .inl (σ.2.2.1 58))),
  (g.2.1 59, .inl (g.2.2 0, 1024, .inl (σ.2.2.1 59))),
  (g.2.1 60, .inl (g.2.2 0, 32, .inl (σ.2.2.1 60))),
  (g.2.1 61, .inl (g.2.2 0, 33, .inl (σ.2.2.1 61))),
  (g.2.1 62, .inl (g.2.2 0, 33, .inl (σ.2.2.1 62))),
  (g.2.1 63, .inl (g.2.2 0, 33, .inl (σ.2.2.1 63))),
  (g.2.1 64, .inl (g.2.2 2, 33, .inl (σ.2.2.1 64))),
  (g.2.1 65, .inl (g.2.2 1, 6, .inr (.inl (σ.2.2.2 65)))),
  (g.2.1 66, .inl (g.2.2 1, 216, .inr (.inl (σ.2.2.2 66)))),
  (g.2.1 67, .inl (g.2.2 1, 6, .inr (.inl (σ.2.2.2 67)))),
  (g.2.1 68, .inl (g.2.2 1, 6, .inr (.inl (σ.2.2.2 68)))),
  (g.2.1 69, .inl (g.2.2 1, 6, .inr (.inl (σ.2.2.2 69)))),
  (g.2.1 70, .inl (g.2.2 2, 1024, .inl (σ.2.2.1 70))),
  (g.2.1 71, .inl (g.2.2 0, 32, .inl (σ.2.2.1 71))),
  (g.2.1 72, .inl (g.2.2 0, 32, .inl (σ.2.2.1 72))),
  (g.2.1 73, .inl (g.2.2 0, 32, .inl (σ.2.2.1 73))),
  (g.2.1 74, .inl (g.2.2 0, 33, .inl (σ.2.2.1 74))),
  (g.2.1 75, .inl (g.2.2 0, 33, .inl (σ.2.2.1 75))),
  (g.2.1 76, .inl (g.2.2 0, 32, .inl (σ.2.2.1 76))),
  (g.2.1 77, .inl (g.2.2 0, 33, .inl (σ.2.2.1 77))),
  (g.2.1 78, .inl (g.2.2 0, 1024, .inl (σ.2.2.1 78))),
  (g.2.1 79, .inl (g.2.2 0, 1024, .inl (σ.2.2.1 79))),
  (g.2.1 80, .inl (g.2.2 0, 32768, .inl (σ.2.2.1 80))),
  (g.2.1 81, .inl (g.2.2 0, 1024, .inl (σ.2.2.1 81)))]

abbrev g_tys (g : GC) : List (ClassId × FieldType) := [(g.2.2 0, .int), (g.2.2 1, .long), (g.2.2 2, .boolean), (g.2.2 3, .object "LikeNets$Sheet")]
def g_A (g : GC) : Nat → Prop := fun q => ∃ k : Nat, k < 82 ∧ q = g.2.1 k
def g_nest : List Cond := [.methodLinkNest RX2 35 yX8_isIn RX8, .methodLinkNest RX4 41 yX8_allOf RX8, .methodLinkNest RX4 49 yX8_lowestBit RX8, .methodLinkNest RX4 52 yX8_isIn RX8, .methodLinkNest RX7 44 yX8_allOf RX8, .methodLinkNest RX7 65 yX8_isIn RX8, .methodLinkNest RX7 72 yX8_lowestBit RX8]
def g_K (g : GC) (U : State) : Prop := va_K g.1 vwCl (g_tys g) U ∧ (∀ i j : Nat, i < 82 → j < 82 → g.2.1 i = g.2.1 j → i = j) ∧ ∀ w ∈ g_nest, va_Nw w U
def GW (g : GC) (s : State) (σ : St) (H : Heap) (locs : List Loc) : Prop := va_P g.1 vwCl (g_cells g σ) H ∧ va_S (g_A g) s.heap H locs
theorem g_fst (g : GC) (σ : St) : (g_cells g σ).map Prod.fst = (List.range 82).map g.2.1 := rfl
theorem g_adr {g : GC} {σ : St} {i : Nat} {q : Nat × va_E} (h : (g_cells g σ)[i]? = some q) : i < 82 ∧ q.1 = g.2.1 i := by
  have h1 : ((g_cells g σ).map Prod.fst)[i]? = some q.1 := by rw [List.getElem?_map, h]; rfl
  rw [g_fst, List.getElem?_map] at h1
  by_cases hi : i < 82
  · rw [List.getElem?_range hi] at h1
    exact ⟨hi, (Option.some.inj h1).symm⟩
  · rw [List.getElem?_eq_none (by rw [List.length_range]; omega)] at h1
    cases h1
theorem g_D {g : GC} {σ : St} {U : State} (h : g_K g U) : va_D (g_A g) (g_cells g σ) :=
  ⟨fun i j x y hi hj e => h.2.1 i j (g_adr hi).1 (g_adr hj).1 (by rw [← (g_adr hi).2, ← (g_adr hj).2, e]), fun k q hk => ⟨k, (g_adr hk).1, (g_adr hk).2⟩⟩
theorem g_K.warm {g : GC} {s U : State} (hW : s.WarmedH U.vm) (h : g_K g s) : g_K g U := ⟨va_K.moved hW.alike h.1, h.2.1, fun w hw => by
  have h1 := h.2.2 w hw
  simp only [g_nest, List.mem_cons, List.not_mem_nil, or_false] at hw
  rcases hw with rfl | rfl | rfl | rfl | rfl | rfl | rfl <;> exact va_Nw.warmM hW h1⟩
theorem g_K.same {g : GC} {s U : State} (hv : s.vm = U.vm) (h : g_K g s) : g_K g U := ⟨va_K.moved (by rw [hv]; exact Vm.Alike.refl U.vm) h.1, h.2.1, fun w hw => by
  have h1 := h.2.2 w hw
  simp only [g_nest, List.mem_cons, List.not_mem_nil, or_false] at hw
  rcases hw with rfl | rfl | rfl | rfl | rfl | rfl | rfl <;> exact va_Nw.same rfl hv h1⟩
/-! a state with some of its parts said -/
theorem nb_f {a b : Nat} (h : ¬ a = b) : Nat.beq a b = false := by
  cases hb : Nat.beq a b with
  | false => rfl
  | true => exact absurd (Nat.eq_of_beq_eq_true hb) h
theorem nb_t {a b : Nat} (h : a = b) : Nat.beq a b = true := by subst h; exact Nat.beq_refl a
def look {α : Type} : List (Nat × α) → Nat → α → α
  | [], _, x => x
  | q :: t, v, x => cond (Nat.beq v q.1) q.2 (look t v x)
def mkS (σ : St) (a : List (Nat × Int32)) (b : List (Nat × Int64)) (c : List (Nat × (Nat → Int32))) (d : List (Nat × (Nat → Int64))) : St :=
  (fun v => look a v (σ.1 v), fun v => look b v (σ.2.1 v), fun k => look c k (σ.2.2.1 k), fun k => look d k (σ.2.2.2 k))
def sI (σ : St) (v : Nat) (x : Int32) : St := (fun z => cond (Nat.beq z v) x (σ.1 z), σ.2.1, σ.2.2.1, σ.2.2.2)
def sL (σ : St) (v : Nat) (x : Int64) : St := (σ.1, fun z => cond (Nat.beq z v) x (σ.2.1 z), σ.2.2.1, σ.2.2.2)
def aI (σ : St) (v : Nat) (x : Nat → Int32) : St := (σ.1, σ.2.1, fun z => cond (Nat.beq z v) x (σ.2.2.1 z), σ.2.2.2)
def aL (σ : St) (v : Nat) (x : Nat → Int64) : St := (σ.1, σ.2.1, σ.2.2.1, fun z => cond (Nat.beq z v) x (σ.2.2.2 z))
theorem look_set {α : Type} : ∀ (a : List (Nat × α)) (j v : Nat) (x : α), (a.map Prod.fst)[j]? = some v → ((a.map Prod.fst).take j).contains v = false → ∀ (z : Nat) (y : α), look (a.set j (v, x)) z y = cond (Nat.beq z v) x (look a z y)
  | [], j, v, x, h, _, z, y => by simp at h
  | q :: t, 0, v, x, h, _, z, y => by
    simp only [List.map_cons, List.getElem?_cons_zero, Option.some.injEq] at h
    subst h
    simp only [List.set_cons_zero, look]
    cases Nat.beq z q.1 <;> rfl
  | q :: t, j + 1, v, x, h, hn, z, y => by
    simp only [List.map_cons, List.getElem?_cons_succ] at h
    simp only [List.map_cons, List.take_succ_cons, List.contains_cons, Bool.or_eq_false_iff] at hn
    simp only [List.set_cons_succ, look]
    rw [look_set t j v x h hn.2 z y]
    by_cases e : z = v
    · have h1 : Nat.beq z q.1 = false := by
        subst e
        have := hn.1
        exact nb_f (by simpa using this)
      rw [h1]; rfl
    · have h2 : Nat.beq z v = false := nb_f e
      rw [h2]; rfl
theorem mk_a {σ : St} {a : List (Nat × Int32)} {b : List (Nat × Int64)} {c : List (Nat × (Nat → Int32))} {d : List (Nat × (Nat → Int64))} {v : Nat} {x : Int32} (j : Nat) (h : (a.map Prod.fst)[j]? = some v) (hn : ((a.map Prod.fst).take j).contains v = false) : sI (mkS σ a b c d) v x = mkS σ (a.set j (v, x)) b c d := by
  show ((_, _) : St) = (_, _)
  refine congrArg (fun f => ((f, _) : St)) (funext fun z => ?_)
  exact (look_set a j v x h hn z _).symm
theorem mk_b {σ : St} {a : List (Nat × Int32)} {b : List (Nat × Int64)} {c : List (Nat × (Nat → Int32))} {d : List (Nat × (Nat → Int64))} {v : Nat} {x : Int64} (j : Nat) (h : (b.map Prod.fst)[j]? = some v) (hn : ((b.map Prod.fst).take j).contains v = false) : sL (mkS σ a b c d) v x = mkS σ a (b.set j (v, x)) c d := by
  show ((_, _, _) : St) = (_, _, _)
  refine congrArg (fun f => ((_, f, _) : St)) (funext fun z => ?_)
  exact (look_set b j v x h hn z _).symm
theorem mk_c {σ : St} {a : List (Nat × Int32)} {b : List (Nat × Int64)} {c : List (Nat × (Nat → Int32))} {d : List (Nat × (Nat → Int64))} {v : Nat} {x : Nat → Int32} (j : Nat) (h : (c.map Prod.fst)[j]? = some v) (hn : ((c.map Prod.fst).take j).contains v = false) : aI (mkS σ a b c d) v x = mkS σ a b (c.set j (v, x)) d := by
  show ((_, _, _, _) : St) = (_, _, _, _)
  refine congrArg (fun f => ((_, _, f, _) : St)) (funext fun z => ?_)
  exact (look_set c j v x h hn z _).symm
theorem mk_d {σ : St} {a : List (Nat × Int32)} {b : List (Nat × Int64)} {c : List (Nat × (Nat → Int32))} {d : List (Nat × (Nat → Int64))} {v : Nat} {x : Nat → Int64} (j : Nat) (h : (d.map Prod.fst)[j]? = some v) (hn : ((d.map Prod.fst).take j).contains v = false) : aL (mkS σ a b c d) v x = mkS σ a b c (d.set j (v, x)) := by
  show ((_, _, _, _) : St) = (_, _, _, _)
  refine congrArg (fun f => ((_, _, _, f) : St)) (funext fun z => ?_)
  exact (look_set d j v x h hn z _).symm
theorem look_self {α : Type} (f : Nat → α) : ∀ (l : List Nat) (z : Nat), look (l.map (fun v => (v, f v))) z (f z) = f z
  | [], _ => rfl
  | q :: t, z => by
    simp only [List.map_cons, look]
    rw [look_self f t z]
    by_cases e : z = q
    · subst e
      cases Nat.beq z z <;> rfl
    · have h2 : Nat.beq z q = false := nb_f e
      rw [h2]; rfl
theorem mk_self (σ : St) (a b c d : List Nat) : mkS σ (a.map (fun v => (v, σ.1 v))) (b.map (fun v => (v, σ.2.1 v))) (c.map (fun v => (v, σ.2.2.1 v))) (d.map (fun v => (v, σ.2.2.2 v))) = σ := by
  show ((_, _, _, _) : St) = (σ.1, σ.2.1, σ.2.2.1, σ.2.2.2)
  rw [show (fun v => look (a.map (fun v => (v, σ.1 v))) v (σ.1 v)) = σ.1 from funext fun z => look_self _ a z, show (fun v => look (b.map (fun v => (v, σ.2.1 v))) v (σ.2.1 v)) = σ.2.1 from funext fun z => look_self _ b z, show (fun v => look (c.map (fun v => (v, σ.2.2.1 v))) v (σ.2.2.1 v)) = σ.2.2.1 from funext fun z => look_self _ c z, show (fun v => look (d.map (fun v => (v, σ.2.2.2 v))) v (σ.2.2.2 v)) = σ.2.2.2 from funext fun z => look_self _ d z]
theorem GW_self {g : GC} {s : State} {σ : St} {H : Heap} {locs : List Loc} (a b c d : List Nat) (h : GW g s σ H locs) : GW g s (mkS σ (a.map (fun v => (v, σ.1 v))) (b.map (fun v => (v, σ.2.1 v))) (c.map (fun v => (v, σ.2.2.1 v))) (d.map (fun v => (v, σ.2.2.2 v)))) H locs := by rw [mk_self]; exact h
def mrg {α : Type} (a a' : List (Nat × α)) : List (Nat × α) := a.map (fun q => (q.1, look a' q.1 q.2))
theorem look_out {α : Type} : ∀ (a' : List (Nat × α)) (z : Nat) (y : α), (a'.map Prod.fst).contains z = false → look a' z y = y
  | [], _, _, _ => rfl
  | q :: t, z, y, h => by
    simp only [List.map_cons, List.contains_cons, Bool.or_eq_false_iff] at h
    have h1 : Nat.beq z q.1 = false := nb_f (by simpa using h.1)
    simp only [look]
    rw [h1, look_out t z y h.2]; rfl
theorem look_in {α : Type} : ∀ (a' : List (Nat × α)) (z : Nat) (y y' : α), (a'.map Prod.fst).contains z = true → look a' z y = look a' z y'
  | [], _, _, _, h => by simp at h
  | q :: t, z, y, y', h => by
    simp only [look]
    by_cases e : z = q.1
    · have h1 : Nat.beq z q.1 = true := nb_t e
      rw [h1]; rfl
    · have h1 : Nat.beq z q.1 = false := nb_f e
      have h2 : (t.map Prod.fst).contains z = true := by
        simp only [List.map_cons, List.contains_cons, Bool.or_eq_true] at h
        rcases h with h | h
        · exact absurd (by simpa using h) e
        · exact h
      rw [h1, look_in t z y y' h2]
theorem look_mrg {α : Type} : ∀ (a a' : List (Nat × α)), (a'.map Prod.fst).all (fun v => (a.map Prod.fst).contains v) = true → ∀ (z : Nat) (y : α), look a' z (look a z y) = look (mrg a a') z y := by
  intro a a' h z y
  by_cases hz : (a'.map Prod.fst).contains z = true
  · have hm : (a.map Prod.fst).contains z = true := List.all_eq_true.mp h z (by simpa using hz)
    rw [look_in a' z _ y hz]
    clear h
    induction a with
    | nil => simp at hm
    | cons q t ih =>
      show _ = cond (Nat.beq z q.1) (look a' q.1 q.2) (look (mrg t a') z y)
      by_cases e : z = q.1
      · have h1 : Nat.beq z q.1 = true := nb_t e
        rw [h1, ← e]
        exact look_in a' z _ _ hz
      · have h1 : Nat.beq z q.1 = false := nb_f e
        have h2 : (t.map Prod.fst).contains z = true := by
          simp only [List.map_cons, List.contains_cons, Bool.or_eq_true] at hm
          rcases hm with h | h
          · exact absurd (by simpa using h) e
          · exact h
        rw [h1]
        exact ih h2
  · have hz : (a'.map Prod.fst).contains z = false := by simpa using hz
    rw [look_out a' z _ hz]
    clear h
    induction a with
    | nil => rfl
    | cons q t ih =>
      show cond (Nat.beq z q.1) q.2 (look t z y) = cond (Nat.beq z q.1) (look a' q.1 q.2) (look (mrg t a') z y)
      rw [ih]
      by_cases e : z = q.1
      · have h1 : Nat.beq z q.1 = true := nb_t e
        rw [h1, ← e]
        exact (look_out a' z _ hz).symm
      · have h1 : Nat.beq z q.1 = false := nb_f e
        rw [h1]; rfl
theorem mk_mk {σ : St} {a a' : List (Nat × Int32)} {b b' : List (Nat × Int64)} {c c' : List (Nat × (Nat → Int32))} {d d' : List (Nat × (Nat → Int64))} (ha : (a'.map Prod.fst).all (fun v => (a.map Prod.fst).contains v) = true) (hb : (b'.map Prod.fst).all (fun v => (b.map Prod.fst).contains v) = true) (hc : (c'.map Prod.fst).all (fun v => (c.map Prod.fst).contains v) = true) (hd : (d'.map Prod.fst).all (fun v => (d.map Prod.fst).contains v) = true) : mkS (mkS σ a b c d) a' b' c' d' = mkS σ (mrg a a') (mrg b b') (mrg c c') (mrg d d') := by
  show ((_, _, _, _) : St) = (_, _, _, _)
  rw [show (fun v => look a' v ((mkS σ a b c d).1 v)) = (fun v => look (mrg a a') v (σ.1 v)) from funext fun z => look_mrg a a' ha z _, show (fun v => look b' v ((mkS σ a b c d).2.1 v)) = (fun v => look (mrg b b') v (σ.2.1 v)) from funext fun z => look_mrg b b' hb z _, show (fun v => look c' v ((mkS σ a b c d).2.2.1 v)) = (fun v => look (mrg c c') v (σ.2.2.1 v)) from funext fun z => look_mrg c c' hc z _, show (fun v => look d' v ((mkS σ a b c d).2.2.2 v)) = (fun v => look (mrg d d') v (σ.2.2.2 v)) from funext fun z => look_mrg d d' hd z _]
/-! words of the plain functions that say what a method does: none where the machine would throw, or a loop doesn't end -/
def gd {α : Type} (b : Bool) (k : Option α) : Option α := cond b k none
theorem gd_some {α : Type} {b : Bool} {k : Option α} {x : α} (h : gd b k = some x) : b = true ∧ k = some x := by
  cases b
  · cases h
  · exact ⟨rfl, h⟩
theorem gd_t {α : Type} {b : Bool} {k : Option α} (h : b = true) : gd b k = k := by rw [h]; rfl
def bnd {α β : Type} (o : Option α) (k : α → Option β) : Option β := match o with
  | none => none
  | some a => k a
theorem bnd_some {α β : Type} {o : Option α} {k : α → Option β} {x : β} (h : bnd o k = some x) : ∃ a, o = some a ∧ k a = some x := by
  cases o with
  | none => cases h
  | some a => exact ⟨a, rfl, h⟩
theorem bnd_at {α β : Type} {o : Option α} {k : α → Option β} {a : α} (h : o = some a) : bnd o k = k a := by rw [h]; rfl
def lt {α β : Type} (a : α) (k : α → Option β) : Option β := k a
theorem lt_at {α β : Type} {a x : α} {k : α → Option β} {r : β} (h : lt a k = some r) (e : x = a) : k x = some r := by rw [e]; exact h
theorem ite_t {α : Type} {c : Prop} [Decidable c] {a b x : α} (hc : c) (h : (if c then a else b) = x) : a = x := by rw [if_pos hc] at h; exact h
theorem ite_f {α : Type} {c : Prop} [Decidable c] {a b x : α} (hc : ¬ c) (h : (if c then a else b) = x) : b = x := by rw [if_neg hc] at h; exact h
theorem nn {c : Prop} [Decidable c] (h : ¬ ¬ c) : c := Decidable.not_not.mp h
def inb (i : Int32) (n : Nat) : Bool := decide (¬ (i < 0 ∨ n ≤ i.toNatClampNeg))
theorem inb_in {i : Int32} {n : Nat} (h : inb i n = true) : vp_in i n := (of_decide_eq_true h : ¬ (i < 0 ∨ n ≤ i.toNatClampNeg))
def nz (y : Int32) : Bool := decide (¬ y = 0)
theorem nz_ne {y : Int32} (h : nz y = true) : ¬ y = 0 := of_decide_eq_true h
def nzL (y : Int64) : Bool := decide (¬ y = 0)
theorem nzL_ne {y : Int64} (h : nzL y = true) : ¬ y = 0 := of_decide_eq_true h
def isb (x : Int32) : Bool := decide (x = 0 ∨ x = 1)
theorem isb_or {x : Int32} (h : isb x = true) : x = 0 ∨ x = 1 := of_decide_eq_true h
theorem isb_n {x : Int32} (h : isb x = true) : narrow .boolean (.int x) = .int x := by rcases isb_or h with rfl | rfl <;> rfl
theorem isb_f {x : Int32} (h : isb x = true) : fits .boolean (.int x) = true := by rcases isb_or h with rfl | rfl <;> rfl
theorem isb_v {x : Int32} (h : isb x = true) : vp_nar .boolean x = x := by rcases isb_or h with rfl | rfl <;> rfl
def FUEL : Nat := 4294967296
theorem no_some {α : Type} {x : α} {P : Prop} (h : (none : Option α) = some x) : P := by cases h
theorem sw_out {x : Int32} {lo hi : Int} (h : ∀ i : Int, lo ≤ i → i ≤ hi → ¬ x.toInt = i) : x.toInt < lo ∨ hi < x.toInt := by
  by_cases h1 : x.toInt < lo
  · exact Or.inl h1
  · by_cases h2 : hi < x.toInt
    · exact Or.inr h2
    · exact absurd rfl (h x.toInt (by omega) (by omega))
/-! a method's contract over the fixed shape: from the state σ to the answer r and the state σ' -/
abbrev g_post (g : GC) (r : Option Value) (σ' : St) : Array Value → State → Outcome → State → Prop := fun _ st oc t => oc = .returned r ∧ va_P g.1 vwCl (g_cells g σ') t.heap ∧ va_F (g_A g) st t
abbrev g_pre (g : GC) (av : List Value) (σ : St) : Array Value → State → Prop := fun v U => v = av.toArray ∧ va_P g.1 vwCl (g_cells g σ) U.heap ∧ g_K g U
def Cn (l : Launch) (g : GC) (y : MethodName) (ws : List Cond) (fr lo : Nat) (av : List Value) (σ : St) (r : Option Value) (σ' : St) : Prop :=
  Met l y ws { frames := fr, cells := 0, slots := 0, locals := lo } (g_pre g av σ) (g_post g r σ') 0 0 (g_A g)
abbrev Wg (p : Program) (l : Launch) (e : Env) (fr lo : Nat) (s : State) (m : MethodId) (args : Array Value) (below : List Frame) (meth : Method) (c : Code) (g : GC) (r : Option Value) (σ' : St) (H : Heap) (locs : List Loc) (f : JFrame) : Prop :=
  W p l e { frames := fr, cells := 0, slots := 0, locals := lo } s m args below meth c H locs 0 0 (MQ below (g_post g r σ') args s 0 0 (g_A g)) f
theorem g_blind (g : GC) (av : List Value) (σ : St) : FrameBlind (g_pre g av σ) := fun a U gg mk h => ⟨h.1, h.2.1, g_K.same (s := U) (U := U.calling gg mk a) rfl h.2.2⟩
section GR
variable {p : Program} {l : Launch} {e : Env} {R : Room} {s : State} {m : MethodId} {args : Array Value} {below : List Frame} {meth : Method} {c : Code} {H : Heap} {locs : List Loc} {Q : State → Prop}
variable {cc : ByteArray} {pc : Nat} {ls : Array Slot} {rest : List Value} {g : GC} {σ σ' : St}
theorem gx_get (hx : p.tables.exec = Jvm.exec) (hb : c.code = cc) {own ref C : String} {T : u_T} {N ci index : Nat} {Ts : List Cond} (hts : ∀ w ∈ Ts, w.before args s = true) (hin : ∀ w ∈ u_ws C T N, w ∈ Ts) (hown : s.vm.findClass own = some m.cls) (hK : g_K g s) (hG : GW g s σ H locs) {q0 : Nat} {fs : List Value} (he : (g_cells g σ)[q0]? = some (g.2.1 q0, .inr (ci, fs))) (hc : vwCl[ci]? = some (C, T, N)) (k : Nat) (hk : k < N) (hlink : (Cond.fieldLink own index ref (T k).2.1 (T k).2.2.1).before args s = true) (hsame : (T k).1 = ref) {v : Value} (hv : fs[k]? = some v) (hdg : decode cc pc = .ok (.getfield index, 3))
    (kk : W p l e R s m args below meth c H locs 0 0 Q (F0 m (pc + 3) ls (v :: rest))) : W p l e R s m args below meth c H locs 0 0 Q (F0 m pc ls (.ref (g.2.1 q0) :: rest)) :=
  va_get hx hb hts hin hown hK.1 hG.1 q0 he hc k hk hlink (fun _ h => by rw [← hsame]; exact h) hv hdg kk
theorem gx_put (hx : p.tables.exec = Jvm.exec) (hb : c.code = cc) {own ref C : String} {T : u_T} {N ci index : Nat} {Ts : List Cond} (hts : ∀ w ∈ Ts, w.before args s = true) (hin : ∀ w ∈ u_ws C T N, w ∈ Ts) (ty0 : Nat → FieldType) (hty : ∀ k, k < N → parseFieldDescriptor (T k).2.2.1 = some (ty0 k)) (hnm : ∀ a, a < N → ∀ b, b < N → a ≠ b → (T a).2.1 ≠ (T b).2.1) (hown : s.vm.findClass own = some m.cls) (hK : g_K g s) (hG : GW g s σ H locs) {q0 : Nat} {fs : List Value} (he : (g_cells g σ)[q0]? = some (g.2.1 q0, .inr (ci, fs))) (hc : vwCl[ci]? = some (C, T, N)) (k : Nat) (hk : k < N) (hlink : (Cond.fieldLink own index ref (T k).2.1 (T k).2.2.1).before args s = true) (hsame : (T k).1 = ref) (hfin : (T k).2.2.2 = false) {v : Value} (hn : narrow (ty0 k) v = v) (hfit : fits (ty0 k) v = true) (hl : k < fs.length) (hset : (g_cells g σ).set q0 (g.2.1 q0, .inr (ci, fs.set k v)) = g_cells g σ') (hdg : decode cc pc = .ok (.putfield index, 3))
    (kk : ∀ (H1 : Heap) (locs1 : List Loc), GW g s σ' H1 locs1 → W p l e R s m args below meth c H1 locs1 0 0 Q (F0 m (pc + 3) ls rest)) : W p l e R s m args below meth c H locs 0 0 Q (F0 m pc ls (v :: .ref (g.2.1 q0) :: rest)) :=
  va_put hx hb hts hin ty0 hty hnm hown hK.1 hG.1 (g_D hK) hG.2 q0 he hc k hk hlink (fun _ h => by rw [← hsame]; exact h) hfin (hty k hk) hn hfit hl hdg (fun H1 l1 h1 _ h3 => kk H1 l1 ⟨by rw [← hset]; exact h1, h3⟩)
theorem gx_iald (hx : p.tables.exec = Jvm.exec) (hb : c.code = cc) (hK : g_K g s) (hG : GW g s σ H locs) {q0 n : Nat} {f : Nat → Int32} (ha : (g_cells g σ)[q0]? = some (g.2.1 q0, .inl (g.2.2 0, n, .inl f))) {i : Int32} (hin : inb i n = true) (hdg : decode cc pc = .ok (.iaload, 1))
    (kk : W p l e R s m args below meth c H locs 0 0 Q (F0 m (pc + 1) ls (.int (f i.toNatClampNeg) :: rest))) : W p l e R s m args below meth c H locs 0 0 Q (F0 m pc ls (.int i :: .ref (g.2.1 q0) :: rest)) :=
  va_iald hx hb hK.1 hG.1 q0 0 ha rfl (inb_in hin) hdg kk
theorem gx_zald (hx : p.tables.exec = Jvm.exec) (hb : c.code = cc) (hK : g_K g s) (hG : GW g s σ H locs) {q0 n : Nat} {f : Nat → Int32} (ha : (g_cells g σ)[q0]? = some (g.2.1 q0, .inl (g.2.2 2, n, .inl f))) {i : Int32} (hin : inb i n = true) (hdg : decode cc pc = .ok (.baload, 1))
    (kk : W p l e R s m args below meth c H locs 0 0 Q (F0 m (pc + 1) ls (.int (f i.toNatClampNeg) :: rest))) : W p l e R s m args below meth c H locs 0 0 Q (F0 m pc ls (.int i :: .ref (g.2.1 q0) :: rest)) :=
  va_zald hx hb hK.1 hG.1 q0 2 ha rfl (inb_in hin) hdg kk
theorem gx_lald (hx : p.tables.exec = Jvm.exec) (hb : c.code = cc) (hK : g_K g s) (hG : GW g s σ H locs) {q0 n : Nat} {f : Nat → Int64} (ha : (g_cells g σ)[q0]? = some (g.2.1 q0, .inl (g.2.2 1, n, .inr (.inl f)))) {i : Int32} (hin : inb i n = true) (hdg : decode cc pc = .ok (.laload, 1))
    (kk : W p l e R s m args below meth c H locs 0 0 Q (F0 m (pc + 1) ls (.long (f i.toNatClampNeg) :: rest))) : W p l e R s m args below meth c H locs 0 0 Q (F0 m pc ls (.int i :: .ref (g.2.1 q0) :: rest)) :=
  va_lald hx hb hK.1 hG.1 q0 1 ha rfl (inb_in hin) hdg kk
theorem gx_iast (hx : p.tables.exec = Jvm.exec) (hb : c.code = cc) (hK : g_K g s) (hG : GW g s σ H locs) {q0 n : Nat} {f : Nat → Int32} (ha : (g_cells g σ)[q0]? = some (g.2.1 q0, .inl (g.2.2 0, n, .inl f))) {i : Int32} {x : Int32} (hin : inb i n = true) (hset : (g_cells g σ).set q0 (g.2.1 q0, .inl (g.2.2 0, n, .inl (upd f i.toNatClampNeg x))) = g_cells g σ') (hdg : decode cc pc = .ok (.iastore, 1))
    (kk : ∀ (H1 : Heap) (locs1 : List Loc), GW g s σ' H1 locs1 → W p l e R s m args below meth c H1 locs1 0 0 Q (F0 m (pc + 1) ls rest)) : W p l e R s m args below meth c H locs 0 0 Q (F0 m pc ls (.int x :: .int i :: .ref (g.2.1 q0) :: rest)) :=
  va_iast hx hb hK.1 hG.1 (g_D hK) hG.2 q0 0 ha rfl (inb_in hin) hdg (fun H1 l1 h1 _ h3 => kk H1 l1 ⟨by rw [← hset]; exact h1, h3⟩)
theorem gx_last (hx : p.tables.exec = Jvm.exec) (hb : c.code = cc) (hK : g_K g s) (hG : GW g s σ H locs) {q0 n : Nat} {f : Nat → Int64} (ha : (g_cells g σ)[q0]? = some (g.2.1 q0, .inl (g.2.2 1, n, .inr (.inl f)))) {i : Int32} {x : Int64} (hin : inb i n = true) (hset : (g_cells g σ).set q0 (g.2.1 q0, .inl (g.2.2 1, n, .inr (.inl (vp_updL f i.toNatClampNeg x)))) = g_cells g σ') (hdg : decode cc pc = .ok (.lastore, 1))
    (kk : ∀ (H1 : Heap) (locs1 : List Loc), GW g s σ' H1 locs1 → W p l e R s m args below meth c H1 locs1 0 0 Q (F0 m (pc + 1) ls rest)) : W p l e R s m args below meth c H locs 0 0 Q (F0 m pc ls (.long x :: .int i :: .ref (g.2.1 q0) :: rest)) :=
  va_last hx hb hK.1 hG.1 (g_D hK) hG.2 q0 1 ha rfl (inb_in hin) hdg (fun H1 l1 h1 _ h3 => kk H1 l1 ⟨by rw [← hset]; exact h1, h3⟩)
theorem gx_zast (hx : p.tables.exec = Jvm.exec) (hb : c.code = cc) (hK : g_K g s) (hG : GW g s σ H locs) {q0 n : Nat} {f : Nat → Int32} (ha : (g_cells g σ)[q0]? = some (g.2.1 q0, .inl (g.2.2 2, n, .inl f))) {i : Int32} {x : Int32} (hin : inb i n = true) (hbx : isb x = true) (hset : (g_cells g σ).set q0 (g.2.1 q0, .inl (g.2.2 2, n, .inl (upd f i.toNatClampNeg x))) = g_cells g σ') (hdg : decode cc pc = .ok (.bastore, 1))
    (kk : ∀ (H1 : Heap) (locs1 : List Loc), GW g s σ' H1 locs1 → W p l e R s m args below meth c H1 locs1 0 0 Q (F0 m (pc + 1) ls rest)) : W p l e R s m args below meth c H locs 0 0 Q (F0 m pc ls (.int x :: .int i :: .ref (g.2.1 q0) :: rest)) :=
  va_zast hx hb hK.1 hG.1 (g_D hK) hG.2 q0 2 ha rfl (inb_in hin) hdg (fun H1 l1 h1 _ h3 => kk H1 l1 ⟨by rw [← hset]; rw [isb_v hbx] at h1; exact h1, h3⟩)
theorem gx_alen (hx : p.tables.exec = Jvm.exec) (hb : c.code = cc) (hK : g_K g s) (hG : GW g s σ H locs) {q0 : Nat} {x : vp_A} (t0 : Nat) {cA : ClassId} {ty : FieldType} (ha : (g_cells g σ)[q0]? = some (g.2.1 q0, .inl (cA, x))) (ht : (g_tys g)[t0]? = some (cA, ty)) {v : Int32} (hv : Int32.ofNat x.1 = v) (hdg : decode cc pc = .ok (.arraylength, 1))
    (kk : W p l e R s m args below meth c H locs 0 0 Q (F0 m (pc + 1) ls (.int v :: rest))) : W p l e R s m args below meth c H locs 0 0 Q (F0 m pc ls (.ref (g.2.1 q0) :: rest)) :=
  va_alen hx hb hK.1 hG.1 q0 t0 ha ht hv hdg kk
theorem gx_aald (hx : p.tables.exec = Jvm.exec) (hb : c.code = cc) (hK : g_K g s) (hG : GW g s σ H locs) {q0 n : Nat} {f : Nat → Option Nat} (ha : (g_cells g σ)[q0]? = some (g.2.1 q0, .inl (g.2.2 3, n, .inr (.inr (.inr (.inr f)))))) {i : Int32} (hin : inb i n = true) {v : Value} (hv : va_rf (f i.toNatClampNeg) = v) (hdg : decode cc pc = .ok (.aaload, 1))
    (kk : W p l e R s m args below meth c H locs 0 0 Q (F0 m (pc + 1) ls (v :: rest))) : W p l e R s m args below meth c H locs 0 0 Q (F0 m pc ls (.int i :: .ref (g.2.1 q0) :: rest)) :=
  va_aldq hx hb hK.1 hG.1 q0 3 ha rfl (inb_in hin) hdg (by rw [hv]; exact kk)
theorem gx_copyi (hx : p.tables.exec = Jvm.exec) (hb : c.code = cc) (hml : c.maxLocals = ls.size) {own : String} {index : Nat} (hown : s.vm.findClass own = some m.cls) (hlink : (Cond.methodLink own index arraycopyName).before args s = true) (hnat : (Cond.native arraycopyName).before args s = true) (hstat : (Cond.static arraycopyName).before args s = true) (hini : (Cond.initialized "java/lang/System").before args s = true)
    (hK : g_K g s) (hG : GW g s σ H locs) {q0 q1 n0 n1 : Nat} {f f1 : Nat → Int32} (ha0 : (g_cells g σ)[q0]? = some (g.2.1 q0, .inl (g.2.2 0, n0, .inl f))) (ha1 : (g_cells g σ)[q1]? = some (g.2.1 q1, .inl (g.2.2 0, n1, .inl f1)))
    {sp dp n : Int32} (h1 : ¬ sp < 0) (h2 : ¬ dp < 0) (h3 : ¬ n < 0) (h4 : sp.toNatClampNeg + n.toNatClampNeg ≤ n0) (h5 : dp.toNatClampNeg + n.toNatClampNeg ≤ n1)
    (hframes : 1 ≤ R.frames) (hlocals : (rest.map fun v => v.category).sum + (nativeFrameWords "java/lang/System" "arraycopy" 5 + 11) ≤ R.locals) (hset : (g_cells g σ).set q1 (g.2.1 q1, .inl (g.2.2 0, n1, .inl (va_cpy f f1 sp.toNatClampNeg dp.toNatClampNeg n.toNatClampNeg))) = g_cells g σ') (hdg : decode cc pc = .ok (.invokestatic index, 3))
    (kk : ∀ (H1 : Heap) (locs1 : List Loc), GW g s σ' H1 locs1 → W p l e R s m args below meth c H1 locs1 0 0 Q (F0 m (pc + 3) ls rest)) : W p l e R s m args below meth c H locs 0 0 Q (F0 m pc ls (.int n :: .int dp :: .ref (g.2.1 q1) :: .int sp :: .ref (g.2.1 q0) :: rest)) :=
  va_copyi hx hb hml hown hlink hnat hstat hini hK.1 hG.1 (g_D hK) hG.2 q0 q1 0 0 ha0 ha1 rfl rfl rfl h1 h2 h3 h4 h5 (fun _ _ => rfl) hframes hlocals hdg (fun H1 l1 h1 _ h3 => kk H1 l1 ⟨by rw [← hset]; exact h1, h3⟩)
theorem gx_iret {v : Int32} (hx : p.tables.exec = Jvm.exec) (hb : c.code = cc) (hr : meth.sig.returnType = some .int) (hlocks : meth.locks = false) (hG : GW g s σ' H locs) (hdg : decode cc pc = .ok (.ireturn, 1)) : W p l e R s m args below meth c H locs 0 0 (MQ below (g_post g (some (.int v)) σ') args s 0 0 (g_A g)) (F0 m pc ls [.int v]) :=
  W.iret hx hb hr (fun t ht _ => ⟨rfl, by rw [ht]; exact hG.1, hG.2.F ht⟩) hG.2.2.2 hdg hlocks
theorem gx_zret {v : Int32} (hx : p.tables.exec = Jvm.exec) (hb : c.code = cc) (hr : meth.sig.returnType = some .boolean) (hlocks : meth.locks = false) (hv : isb v = true) (hG : GW g s σ' H locs) (hdg : decode cc pc = .ok (.ireturn, 1)) : W p l e R s m args below meth c H locs 0 0 (MQ below (g_post g (some (.int v)) σ') args s 0 0 (g_A g)) (F0 m pc ls [.int v]) :=
  W.zret hx hb hr (isb_n hv) (fun t ht _ => ⟨rfl, by rw [ht]; exact hG.1, hG.2.F ht⟩) hG.2.2.2 hdg hlocks
theorem gx_lret {v : Int64} (hx : p.tables.exec = Jvm.exec) (hb : c.code = cc) (hr : meth.sig.returnType = some .long) (hlocks : meth.locks = false) (hG : GW g s σ' H locs) (hdg : decode cc pc = .ok (.lreturn, 1)) : W p l e R s m args below meth c H locs 0 0 (MQ below (g_post g (some (.long v)) σ') args s 0 0 (g_A g)) (F0 m pc ls [.long v]) :=
  W.lret hx hb hr (fun t ht _ => ⟨rfl, by rw [ht]; exact hG.1, hG.2.F ht⟩) hG.2.2.2 hdg hlocks
theorem gx_vret (hx : p.tables.exec = Jvm.exec) (hb : c.code = cc) (hr : meth.sig.returnType = none) (hlocks : meth.locks = false) (hG : GW g s σ' H locs) (hdg : decode cc pc = .ok (.return_, 1)) : W p l e R s m args below meth c H locs 0 0 (MQ below (g_post g none σ') args s 0 0 (g_A g)) (F0 m pc ls []) :=
  W.vret hx hb hr (fun t ht _ => ⟨rfl, by rw [ht]; exact hG.1, hG.2.F ht⟩) hG.2.2.2 hdg hlocks
theorem gx_call {r : Option Value} {st0 : List Value} {av : Array Value} (hr : va_Run p l e R s m args below meth c H locs 0 0 0 0 (F0 m pc ls st0) rest (g_post g r σ' av) (g_A g)) (hG : GW g s σ H locs)
    (kk : ∀ (H1 : Heap) (locs1 : List Loc), GW g s σ' H1 locs1 → W p l e R s m args below meth c H1 locs1 0 0 Q (F0 m (pc + 3) ls (r.toList ++ rest))) : W p l e R s m args below meth c H locs 0 0 Q (F0 m pc ls st0) := by
  intro T hT X
  obtain ⟨v, st₀, t, T', L, h0, X', hL, e1, e2, ⟨hv, hp, hz, hk⟩, st⟩ := hr T hT X
  cases hv
  rw [h0] at hz hk
  obtain ⟨t2, a1, b1⟩ := kk T'.heap (locs ++ L) ⟨by rw [e1]; exact hp, Nat.le_trans hG.2.1 (by rw [e1]; exact hz), fun q h1 h2 => by rw [e1, hk q (Nat.lt_of_lt_of_le h1 hG.2.1) h2]; exact hG.2.2.1 q h1 h2, fun q hq => (List.mem_append.mp hq).elim (hG.2.2.2 q) (hL q)⟩ T' rfl X'
  exact ⟨t2, st t2 a1, b1⟩
variable {y : MethodName} {bytes : ByteArray} {maxL nL n index fr lo : Nat} {ret : Option FieldType} {ws Ts : List Cond} {own C host : String} {As : List Value} {r : Option Value} {st0 : List Value} {σ1 : St}
theorem gx_cV (S : CallFix p m c cc nL s args Ts own) {k ci : Nat} {q : vw_C} {fs : List Value} (hM : Cn l g y ws fr lo (.ref (g.2.1 k) :: As) σ r σ1) (hs : σ1 = σ') (cw : CallW R s args own C index y bytes maxL ret ws { frames := fr, cells := 0, slots := 0, locals := lo } 0 0 n) (hK : g_K g s) (hG : GW g s σ H locs) (he : (g_cells g σ)[k]? = some (g.2.1 k, .inr (ci, fs))) (hc : vwCl[ci]? = some q) (hC : q.1 = C) (hn : As.length = n) (hsz : ls.size = nL) (hst : st0 = As.reverse ++ .ref (g.2.1 k) :: rest) (hW : (rest.map fun v => v.category).sum ≤ 8) (hdg : decode cc pc = .ok (.invokevirtual index, 3))
    (kk : ∀ (H1 : Heap) (locs1 : List Loc), GW g s σ' H1 locs1 → W p l e R s m args below meth c H1 locs1 0 0 Q (F0 m (pc + 3) ls (r.toList ++ rest))) : W p l e R s m args below meth c H locs 0 0 Q (F0 m pc ls st0) := by
  subst hs
  refine gx_call (va_runV (g := F0 m pc ls st0) (C := C) (b := g.2.1 k) S hM cw ⟨g_blind _ _ _, ?_, fun U hU hw => ⟨rfl, by rw [hU]; exact hG.1, g_K.warm hw hK⟩⟩ rfl hn hsz hst (lv_room hW) hdg ⟨Nat.zero_le _, Nat.zero_le _⟩) hG kk
  rw [← hC]
  exact va_recv hK.1 hG.1 hc he
theorem gx_cS (S : CallFix p m c cc nL s args Ts own) (hM : Cn l g y ws fr lo As σ r σ1) (hs : σ1 = σ') (cw : CallB R s args own index y bytes maxL ret ws { frames := fr, cells := 0, slots := 0, locals := lo } 0 0 n ∧ (Cond.static y).before args s = true) (hK : g_K g s) (hG : GW g s σ H locs) (hn : As.length = n) (hsz : ls.size = nL) (hst : st0 = As.reverse ++ rest) (hW : (rest.map fun v => v.category).sum ≤ 8) (hdg : decode cc pc = .ok (.invokestatic index, 3))
    (kk : ∀ (H1 : Heap) (locs1 : List Loc), GW g s σ' H1 locs1 → W p l e R s m args below meth c H1 locs1 0 0 Q (F0 m (pc + 3) ls (r.toList ++ rest))) : W p l e R s m args below meth c H locs 0 0 Q (F0 m pc ls st0) := by
  subst hs
  exact gx_call (va_runS (g := F0 m pc ls st0) S hM cw ⟨g_blind _ _ _, fun U hU hw => ⟨rfl, by rw [hU]; exact hG.1, g_K.warm hw hK⟩⟩ rfl hn hsz hst (lv_room hW) hdg ⟨Nat.zero_le _, Nat.zero_le _⟩) hG kk
theorem gx_cN (S : CallFix p m c cc nL s args Ts own) (hM : Cn l g y ws fr lo As σ r σ1) (hs : σ1 = σ') (cw : va_CN R s args own index y host bytes maxL ret ws { frames := fr, cells := 0, slots := 0, locals := lo } 0 0 n) (hst9 : (Cond.static y).before args s = true) (hK : g_K g s) (hG : GW g s σ H locs) (hn : As.length = n) (hsz : ls.size = nL) (hst : st0 = As.reverse ++ rest) (hW : (rest.map fun v => v.category).sum ≤ 8) (hdg : decode cc pc = .ok (.invokestatic index, 3))
    (kk : ∀ (H1 : Heap) (locs1 : List Loc), GW g s σ' H1 locs1 → W p l e R s m args below meth c H1 locs1 0 0 Q (F0 m (pc + 3) ls (r.toList ++ rest))) : W p l e R s m args below meth c H locs 0 0 Q (F0 m pc ls st0) := by
  subst hs
  exact gx_call (va_runSN (g := F0 m pc ls st0) S hM ⟨cw, hst9, trivial⟩ ⟨g_blind _ _ _, fun U hU hw => ⟨rfl, by rw [hU]; exact hG.1, g_K.warm hw hK⟩⟩ rfl hn hsz hst (lv_room hW) hdg ⟨Nat.zero_le _, Nat.zero_le _⟩) hG kk
end GR
/-! the cells, one by one -/
theorem ga_0 (g : GC) (σ : St) : (g_cells g σ)[0]? = some (g.2.1 0, .inr (8, [.ref (g.2.1 1), .ref (g.2.1 10), .ref (g.2.1 12), .ref (g.2.1 14), .ref (g.2.1 16), .ref (g.2.1 17), .ref (g.2.1 18), .ref (g.2.1 20), .ref (g.2.1 24), .ref (g.2.1 28), .ref (g.2.1 37), .ref (g.2.1 41), .int (σ.1 12)])) := rfl
theorem ga_1 (g : GC) (σ : St) : (g_cells g σ)[1]? = some (g.2.1 1, .inl (g.2.2 3, 4, .inr (.inr (.inr (.inr (va_up (va_up (va_up (va_up (fun _ => none) (((0 : Int32) : Int32).toNatClampNeg) (some (g.2.1 2))) (((1 : Int32) : Int32).toNatClampNeg) (some (g.2.1 4))) (((2 : Int32) : Int32).toNatClampNeg) (some (g.2.1 6))) (((3 : Int32) : Int32).toNatClampNeg) (some (g.2.1 8)))))))) := rfl
theorem ga_2 (g : GC) (σ : St) : (g_cells g σ)[2]? = some (g.2.1 2, .inr (5, [.ref (g.2.1 3), .int (σ.1 129), .int (σ.1 130), .int (σ.1 131)])) := rfl
theorem ga_3 (g : GC) (σ : St) : (g_cells g σ)[3]? = some (g.2.1 3, .inl (g.2.2 0, 60, .inl (σ.2.2.1 3))) := rfl
theorem ga_4 (g : GC) (σ : St) : (g_cells g σ)[4]? = some (g.2.1 4, .inr (5, [.ref (g.2.1 5), .int (σ.1 257), .int (σ.1 258), .int (σ.1 259)])) := rfl
theorem ga_5 (g : GC) (σ : St) : (g_cells g σ)[5]? = some (g.2.1 5, .inl (g.2.2 0, 60, .inl (σ.2.2.1 5))) := rfl
theorem ga_6 (g : GC) (σ : St) : (g_cells g σ)[6]? = some (g.2.1 6, .inr (5, [.ref (g.2.1 7), .int (σ.1 385), .int (σ.1 386), .int (σ.1 387)])) := rfl
theorem ga_7 (g : GC) (σ : St) : (g_cells g σ)[7]? = some (g.2.1 7, .inl (g.2.2 0, 60, .inl (σ.2.2.1 7))) := rfl
theorem ga_8 (g : GC) (σ : St) : (g_cells g σ)[8]? = some (g.2.1 8, .inr (5, [.ref (g.2.1 9), .int (σ.1 513), .int (σ.1 514), .int (σ.1 515)])) := rfl
theorem ga_9 (g : GC) (σ : St) : (g_cells g σ)[9]? = some (g.2.1 9, .inl (g.2.2 0, 60, .inl (σ.2.2.1 9))) := rfl
theorem ga_10 (g : GC) (σ : St) : (g_cells g σ)[10]? = some (g.2.1 10, .inr (2, [.ref (g.2.1 11), .int (σ.1 641)])) := rfl
theorem ga_11 (g : GC) (σ : St) : (g_cells g σ)[11]? = some (g.2.1 11, .inl (g.2.2 0, 32, .inl (σ.2.2.1 11))) := rfl
theorem ga_12 (g : GC) (σ : St) : (g_cells g σ)[12]? = some (g.2.1 12, .inr (2, [.ref (g.2.1 13), .int (σ.1 769)])) := rfl
theorem ga_13 (g : GC) (σ : St) : (g_cells g σ)[13]? = some (g.2.1 13, .inl (g.2.2 0, 32, .inl (σ.2.2.1 13))) := rfl
theorem ga_14 (g : GC) (σ : St) : (g_cells g σ)[14]? = some (g.2.1 14, .inr (2, [.ref (g.2.1 15), .int (σ.1 897)])) := rfl
theorem ga_15 (g : GC) (σ : St) : (g_cells g σ)[15]? = some (g.2.1 15, .inl (g.2.2 0, 32, .inl (σ.2.2.1 15))) := rfl
theorem ga_16 (g : GC) (σ : St) : (g_cells g σ)[16]? = some (g.2.1 16, .inl (g.2.2 0, 32, .inl (σ.2.2.1 16))) := rfl
theorem ga_17 (g : GC) (σ : St) : (g_cells g σ)[17]? = some (g.2.1 17, .inl (g.2.2 0, 32, .inl (σ.2.2.1 17))) := rfl
theorem ga_18 (g : GC) (σ : St) : (g_cells g σ)[18]? = some (g.2.1 18, .inr (1, [.ref (g.2.1 19)])) := rfl
theorem ga_19 (g : GC) (σ : St) : (g_cells g σ)[19]? = some (g.2.1 19, .inl (g.2.2 0, 32, .inl (σ.2.2.1 19))) := rfl
theorem ga_20 (g : GC) (σ : St) : (g_cells g σ)[20]? = some (g.2.1 20, .inr (7, [.ref (g.2.1 21), .ref (g.2.1 22), .ref (g.2.1 23), .int (σ.1 1283), .int (σ.1 1284), .int (σ.1 1285), .int (σ.1 1286)])) := rfl
theorem ga_21 (g : GC) (σ : St) : (g_cells g σ)[21]? = some (g.2.1 21, .inl (g.2.2 0, 1024, .inl (σ.2.2.1 21))) := rfl
theorem ga_22 (g : GC) (σ : St) : (g_cells g σ)[22]? = some (g.2.1 22, .inl (g.2.2 0, 1024, .inl (σ.2.2.1 22))) := rfl
theorem ga_23 (g : GC) (σ : St) : (g_cells g σ)[23]? = some (g.2.1 23, .inl (g.2.2 0, 32, .inl (σ.2.2.1 23))) := rfl
theorem ga_24 (g : GC) (σ : St) : (g_cells g σ)[24]? = some (g.2.1 24, .inr (0, [.ref (g.2.1 25), .ref (g.2.1 26), .ref (g.2.1 27), .int (σ.1 1539), .int (σ.1 1540), .int (σ.1 1541), .int (σ.1 1542)])) := rfl
theorem ga_25 (g : GC) (σ : St) : (g_cells g σ)[25]? = some (g.2.1 25, .inl (g.2.2 0, 32, .inl (σ.2.2.1 25))) := rfl
theorem ga_26 (g : GC) (σ : St) : (g_cells g σ)[26]? = some (g.2.1 26, .inl (g.2.2 0, 32, .inl (σ.2.2.1 26))) := rfl
theorem ga_27 (g : GC) (σ : St) : (g_cells g σ)[27]? = some (g.2.1 27, .inl (g.2.2 0, 32, .inl (σ.2.2.1 27))) := rfl
theorem ga_28 (g : GC) (σ : St) : (g_cells g σ)[28]? = some (g.2.1 28, .inr (6, [.ref (g.2.1 29), .ref (g.2.1 30), .ref (g.2.1 31), .ref (g.2.1 32), .ref (g.2.1 33), .ref (g.2.1 34), .ref (g.2.1 35), .ref (g.2.1 36), .int (σ.1 1800), .int (σ.1 1801), .int (σ.1 1802), .long (σ.2.1 1803), .int (σ.1 1804)])) := rfl
theorem ga_29 (g : GC) (σ : St) : (g_cells g σ)[29]? = some (g.2.1 29, .inl (g.2.2 0, 6, .inl (σ.2.2.1 29))) := rfl
theorem ga_30 (g : GC) (σ : St) : (g_cells g σ)[30]? = some (g.2.1 30, .inl (g.2.2 0, 6, .inl (σ.2.2.1 30))) := rfl
theorem ga_31 (g : GC) (σ : St) : (g_cells g σ)[31]? = some (g.2.1 31, .inl (g.2.2 1, 6, .inr (.inl (σ.2.2.2 31)))) := rfl
theorem ga_32 (g : GC) (σ : St) : (g_cells g σ)[32]? = some (g.2.1 32, .inl (g.2.2 1, 216, .inr (.inl (σ.2.2.2 32)))) := rfl
theorem ga_33 (g : GC) (σ : St) : (g_cells g σ)[33]? = some (g.2.1 33, .inl (g.2.2 1, 7, .inr (.inl (σ.2.2.2 33)))) := rfl
theorem ga_34 (g : GC) (σ : St) : (g_cells g σ)[34]? = some (g.2.1 34, .inl (g.2.2 1, 6, .inr (.inl (σ.2.2.2 34)))) := rfl
theorem ga_35 (g : GC) (σ : St) : (g_cells g σ)[35]? = some (g.2.1 35, .inl (g.2.2 0, 6, .inl (σ.2.2.1 35))) := rfl
theorem ga_36 (g : GC) (σ : St) : (g_cells g σ)[36]? = some (g.2.1 36, .inl (g.2.2 0, 6, .inl (σ.2.2.1 36))) := rfl
theorem ga_37 (g : GC) (σ : St) : (g_cells g σ)[37]? = some (g.2.1 37, .inr (4, [.ref (g.2.1 38), .ref (g.2.1 39), .ref (g.2.1 40), .int (σ.1 2371), .int (σ.1 2372), .int (σ.1 2373)])) := rfl
theorem ga_38 (g : GC) (σ : St) : (g_cells g σ)[38]? = some (g.2.1 38, .inl (g.2.2 0, 32, .inl (σ.2.2.1 38))) := rfl
theorem ga_39 (g : GC) (σ : St) : (g_cells g σ)[39]? = some (g.2.1 39, .inl (g.2.2 0, 32, .inl (σ.2.2.1 39))) := rfl
theorem ga_40 (g : GC) (σ : St) : (g_cells g σ)[40]? = some (g.2.1 40, .inl (g.2.2 0, 32, .inl (σ.2.2.1 40))) := rfl
theorem ga_41 (g : GC) (σ : St) : (g_cells g σ)[41]? = some (g.2.1 41, .inr (3, [.ref (g.2.1 42), .ref (g.2.1 43), .ref (g.2.1 44), .ref (g.2.1 45), .ref (g.2.1 46), .ref (g.2.1 47), .ref (g.2.1 48), .ref (g.2.1 49), .int (σ.1 2632), .int (σ.1 2633), .int (σ.1 2634)])) := rfl
theorem ga_42 (g : GC) (σ : St) : (g_cells g σ)[42]? = some (g.2.1 42, .inl (g.2.2 0, 1024, .inl (σ.2.2.1 42))) := rfl
theorem ga_43 (g : GC) (σ : St) : (g_cells g σ)[43]? = some (g.2.1 43, .inl (g.2.2 0, 1024, .inl (σ.2.2.1 43))) := rfl
theorem ga_44 (g : GC) (σ : St) : (g_cells g σ)[44]? = some (g.2.1 44, .inl (g.2.2 0, 1024, .inl (σ.2.2.1 44))) := rfl
theorem ga_45 (g : GC) (σ : St) : (g_cells g σ)[45]? = some (g.2.1 45, .inl (g.2.2 0, 1024, .inl (σ.2.2.1 45))) := rfl
theorem ga_46 (g : GC) (σ : St) : (g_cells g σ)[46]? = some (g.2.1 46, .inl (g.2.2 0, 1024, .inl (σ.2.2.1 46))) := rfl
theorem ga_47 (g : GC) (σ : St) : (g_cells g σ)[47]? = some (g.2.1 47, .inl (g.2.2 1, 1024, .inr (.inl (σ.2.2.2 47)))) := rfl
theorem ga_48 (g : GC) (σ : St) : (g_cells g σ)[48]? = some (g.2.1 48, .inl (g.2.2 0, 32, .inl (σ.2.2.1 48))) := rfl
theorem ga_49 (g : GC) (σ : St) : (g_cells g σ)[49]? = some (g.2.1 49, .inl (g.2.2 0, 32, .inl (σ.2.2.1 49))) := rfl
theorem ga_50 (g : GC) (σ : St) : (g_cells g σ)[50]? = some (g.2.1 50, .inr (9, [.ref (g.2.1 51), .ref (g.2.1 52), .ref (g.2.1 53), .int (σ.1 3203), .ref (g.2.1 54), .int (σ.1 3205), .int (σ.1 3206), .ref (g.2.1 55), .int (σ.1 3208), .ref (g.2.1 56), .ref (g.2.1 57), .ref (g.2.1 58), .int (σ.1 3212), .ref (g.2.1 59), .int (σ.1 3214), .int (σ.1 3215), .ref (g.2.1 60), .ref (g.2.1 61), .ref (g.2.1 62), .ref (g.2.1 63), .ref (g.2.1 64), .int (σ.1 3221), .int (σ.1 3222), .ref (g.2.1 65), .long (σ.2.1 3224), .ref (g.2.1 66), .ref (g.2.1 67), .ref (g.2.1 68), .ref (g.2.1 69), .ref (g.2.1 70), .ref (g.2.1 71), .ref (g.2.1 72), .ref (g.2.1 73), .ref (g.2.1 74), .ref (g.2.1 75), .int (σ.1 3235), .ref (g.2.1 76), .ref (g.2.1 77), .int (σ.1 3238), .ref (g.2.1 78), .ref (g.2.1 79), .ref (g.2.1 80), .int (σ.1 3242), .ref (g.2.1 81)])) := rfl
theorem ga_51 (g : GC) (σ : St) : (g_cells g σ)[51]? = some (g.2.1 51, .inl (g.2.2 0, 4, .inl (σ.2.2.1 51))) := rfl
theorem ga_52 (g : GC) (σ : St) : (g_cells g σ)[52]? = some (g.2.1 52, .inl (g.2.2 0, 4, .inl (σ.2.2.1 52))) := rfl
theorem ga_53 (g : GC) (σ : St) : (g_cells g σ)[53]? = some (g.2.1 53, .inl (g.2.2 0, 240, .inl (σ.2.2.1 53))) := rfl
theorem ga_54 (g : GC) (σ : St) : (g_cells g σ)[54]? = some (g.2.1 54, .inl (g.2.2 2, 1024, .inl (σ.2.2.1 54))) := rfl
theorem ga_55 (g : GC) (σ : St) : (g_cells g σ)[55]? = some (g.2.1 55, .inl (g.2.2 2, 1024, .inl (σ.2.2.1 55))) := rfl
theorem ga_56 (g : GC) (σ : St) : (g_cells g σ)[56]? = some (g.2.1 56, .inl (g.2.2 0, 6, .inl (σ.2.2.1 56))) := rfl
theorem ga_57 (g : GC) (σ : St) : (g_cells g σ)[57]? = some (g.2.1 57, .inl (g.2.2 0, 6, .inl (σ.2.2.1 57))) := rfl
theorem ga_58 (g : GC) (σ : St) : (g_cells g σ)[58]? = some (g.2.1 58, .inl (g.2.2 0, 33, .inl (σ.2.2.1 58))) := rfl
theorem ga_59 (g : GC) (σ : St) : (g_cells g σ)[59]? = some (g.2.1 59, .inl (g.2.2 0, 1024, .inl (σ.2.2.1 59))) := rfl
theorem ga_60 (g : GC) (σ : St) : (g_cells g σ)[60]? = some (g.2.1 60, .inl (g.2.2 0, 32, .inl (σ.2.2.1 60))) := rfl
theorem ga_61 (g : GC) (σ : St) : (g_cells g σ)[61]? = some (g.2.1 61, .inl (g.2.2 0, 33, .inl (σ.2.2.1 61))) := rfl
theorem ga_62 (g : GC) (σ : St) : (g_cells g σ)[62]? = some (g.2.1 62, .inl (g.2.2 0, 33, .inl (σ.2.2.1 62))) := rfl
theorem ga_63 (g : GC) (σ : St) : (g_cells g σ)[63]? = some (g.2.1 63, .inl (g.2.2 0, 33, .inl (σ.2.2.1 63))) := rfl
theorem ga_64 (g : GC) (σ : St) : (g_cells g σ)[64]? = some (g.2.1 64, .inl (g.2.2 2, 33, .inl (σ.2.2.1 64))) := rfl
theorem ga_65 (g : GC) (σ : St) : (g_cells g σ)[65]? = some (g.2.1 65, .inl (g.2.2 1, 6, .inr (.inl (σ.2.2.2 65)))) := rfl
theorem ga_66 (g : GC) (σ : St) : (g_cells g σ)[66]? = some (g.2.1 66, .inl (g.2.2 1, 216, .inr (.inl (σ.2.2.2 66)))) := rfl
theorem ga_67 (g : GC) (σ : St) : (g_cells g σ)[67]? = some (g.2.1 67, .inl (g.2.2 1, 6, .inr (.inl (σ.2.2.2 67)))) := rfl
theorem ga_68 (g : GC) (σ : St) : (g_cells g σ)[68]? = some (g.2.1 68, .inl (g.2.2 1, 6, .inr (.inl (σ.2.2.2 68)))) := rfl
theorem ga_69 (g : GC) (σ : St) : (g_cells g σ)[69]? = some (g.2.1 69, .inl (g.2.2 1, 6, .inr (.inl (σ.2.2.2 69)))) := rfl
theorem ga_70 (g : GC) (σ : St) : (g_cells g σ)[70]? = some (g.2.1 70, .inl (g.2.2 2, 1024, .inl (σ.2.2.1 70))) := rfl
theorem ga_71 (g : GC) (σ : St) : (g_cells g σ)[71]? = some (g.2.1 71, .inl (g.2.2 0, 32, .inl (σ.2.2.1 71))) := rfl
theorem ga_72 (g : GC) (σ : St) : (g_cells g σ)[72]? = some (g.2.1 72, .inl (g.2.2 0, 32, .inl (σ.2.2.1 72))) := rfl
theorem ga_73 (g : GC) (σ : St) : (g_cells g σ)[73]? = some (g.2.1 73, .inl (g.2.2 0, 32, .inl (σ.2.2.1 73))) := rfl
theorem ga_74 (g : GC) (σ : St) : (g_cells g σ)[74]? = some (g.2.1 74, .inl (g.2.2 0, 33, .inl (σ.2.2.1 74))) := rfl
theorem ga_75 (g : GC) (σ : St) : (g_cells g σ)[75]? = some (g.2.1 75, .inl (g.2.2 0, 33, .inl (σ.2.2.1 75))) := rfl
theorem ga_76 (g : GC) (σ : St) : (g_cells g σ)[76]? = some (g.2.1 76, .inl (g.2.2 0, 32, .inl (σ.2.2.1 76))) := rfl
theorem ga_77 (g : GC) (σ : St) : (g_cells g σ)[77]? = some (g.2.1 77, .inl (g.2.2 0, 33, .inl (σ.2.2.1 77))) := rfl
theorem ga_78 (g : GC) (σ : St) : (g_cells g σ)[78]? = some (g.2.1 78, .inl (g.2.2 0, 1024, .inl (σ.2.2.1 78))) := rfl
theorem ga_79 (g : GC) (σ : St) : (g_cells g σ)[79]? = some (g.2.1 79, .inl (g.2.2 0, 1024, .inl (σ.2.2.1 79))) := rfl
theorem ga_80 (g : GC) (σ : St) : (g_cells g σ)[80]? = some (g.2.1 80, .inl (g.2.2 0, 32768, .inl (σ.2.2.1 80))) := rfl
theorem ga_81 (g : GC) (σ : St) : (g_cells g σ)[81]? = some (g.2.1 81, .inl (g.2.2 0, 1024, .inl (σ.2.2.1 81))) := rfl
theorem gf_12 (g : GC) (σ : St) (x : Int32) : (g_cells g σ).set 0 (g.2.1 0, .inr (8, ([.ref (g.2.1 1), .ref (g.2.1 10), .ref (g.2.1 12), .ref (g.2.1 14), .ref (g.2.1 16), .ref (g.2.1 17), .ref (g.2.1 18), .ref (g.2.1 20), .ref (g.2.1 24), .ref (g.2.1 28), .ref (g.2.1 37), .ref (g.2.1 41), .int (σ.1 12)] : List Value).set 12 (.int x))) = g_cells g (sI σ 12 x) := rfl
theorem gf_129 (g : GC) (σ : St) (x : Int32) : (g_cells g σ).set 2 (g.2.1 2, .inr (5, ([.ref (g.2.1 3), .int (σ.1 129), .int (σ.1 130), .int (σ.1 131)] : List Value).set 1 (.int x))) = g_cells g (sI σ 129 x) := rfl
theorem gf_130 (g : GC) (σ : St) (x : Int32) : (g_cells g σ).set 2 (g.2.1 2, .inr (5, ([.ref (g.2.1 3), .int (σ.1 129), .int (σ.1 130), .int (σ.1 131)] : List Value).set 2 (.int x))) = g_cells g (sI σ 130 x) := rfl
theorem gf_131 (g : GC) (σ : St) (x : Int32) : (g_cells g σ).set 2 (g.2.1 2, .inr (5, ([.ref (g.2.1 3), .int (σ.1 129), .int (σ.1 130), .int (σ.1 131)] : List Value).set 3 (.int x))) = g_cells g (sI σ 131 x) := rfl
theorem gs_3 (g : GC) (σ : St) (x : Nat → Int32) : (g_cells g σ).set 3 (g.2.1 3, .inl (g.2.2 0, 60, .inl x)) = g_cells g (aI σ 3 x) := rfl
theorem gf_257 (g : GC) (σ : St) (x : Int32) : (g_cells g σ).set 4 (g.2.1 4, .inr (5, ([.ref (g.2.1 5), .int (σ.1 257), .int (σ.1 258), .int (σ.1 259)] : List Value).set 1 (.int x))) = g_cells g (sI σ 257 x) := rfl
theorem gf_258 (g : GC) (σ : St) (x : Int32) : (g_cells g σ).set 4 (g.2.1 4, .inr (5, ([.ref (g.2.1 5), .int (σ.1 257), .int (σ.1 258), .int (σ.1 259)] : List Value).set 2 (.int x))) = g_cells g (sI σ 258 x) := rfl
theorem gf_259 (g : GC) (σ : St) (x : Int32) : (g_cells g σ).set 4 (g.2.1 4, .inr (5, ([.ref (g.2.1 5), .int (σ.1 257), .int (σ.1 258), .int (σ.1 259)] : List Value).set 3 (.int x))) = g_cells g (sI σ 259 x) := rfl
theorem gs_5 (g : GC) (σ : St) (x : Nat → Int32) : (g_cells g σ).set 5 (g.2.1 5, .inl (g.2.2 0, 60, .inl x)) = g_cells g (aI σ 5 x) := rfl
theorem gf_385 (g : GC) (σ : St) (x : Int32) : (g_cells g σ).set 6 (g.2.1 6, .inr (5, ([.ref (g.2.1 7), .int (σ.1 385), .int (σ.1 386), .int (σ.1 387)] : List Value).set 1 (.int x))) = g_cells g (sI σ 385 x) := rfl
theorem gf_386 (g : GC) (σ : St) (x : Int32) : (g_cells g σ).set 6 (g.2.1 6, .inr (5, ([.ref (g.2.1 7), .int (σ.1 385), .int (σ.1 386), .int (σ.1 387)] : List Value).set 2 (.int x))) = g_cells g (sI σ 386 x) := rfl
theorem gf_387 (g : GC) (σ : St) (x : Int32) : (g_cells g σ).set 6 (g.2.1 6, .inr (5, ([.ref (g.2.1 7), .int (σ.1 385), .int (σ.1 386), .int (σ.1 387)] : List Value).set 3 (.int x))) = g_cells g (sI σ 387 x) := rfl
theorem gs_7 (g : GC) (σ : St) (x : Nat → Int32) : (g_cells g σ).set 7 (g.2.1 7, .inl (g.2.2 0, 60, .inl x)) = g_cells g (aI σ 7 x) := rfl
theorem gf_513 (g : GC) (σ : St) (x : Int32) : (g_cells g σ).set 8 (g.2.1 8, .inr (5, ([.ref (g.2.1 9), .int (σ.1 513), .int (σ.1 514), .int (σ.1 515)] : List Value).set 1 (.int x))) = g_cells g (sI σ 513 x) := rfl
theorem gf_514 (g : GC) (σ : St) (x : Int32) : (g_cells g σ).set 8 (g.2.1 8, .inr (5, ([.ref (g.2.1 9), .int (σ.1 513), .int (σ.1 514), .int (σ.1 515)] : List Value).set 2 (.int x))) = g_cells g (sI σ 514 x) := rfl
theorem gf_515 (g : GC) (σ : St) (x : Int32) : (g_cells g σ).set 8 (g.2.1 8, .inr (5, ([.ref (g.2.1 9), .int (σ.1 513), .int (σ.1 514), .int (σ.1 515)] : List Value).set 3 (.int x))) = g_cells g (sI σ 515 x) := rfl
theorem gs_9 (g : GC) (σ : St) (x : Nat → Int32) : (g_cells g σ).set 9 (g.2.1 9, .inl (g.2.2 0, 60, .inl x)) = g_cells g (aI σ 9 x) := rfl
theorem gf_641 (g : GC) (σ : St) (x : Int32) : (g_cells g σ).set 10 (g.2.1 10, .inr (2, ([.ref (g.2.1 11), .int (σ.1 641)] : List Value).set 1 (.int x))) = g_cells g (sI σ 641 x) := rfl
theorem gs_11 (g : GC) (σ : St) (x : Nat → Int32) : (g_cells g σ).set 11 (g.2.1 11, .inl (g.2.2 0, 32, .inl x)) = g_cells g (aI σ 11 x) := rfl
theorem gf_769 (g : GC) (σ : St) (x : Int32) : (g_cells g σ).set 12 (g.2.1 12, .inr (2, ([.ref (g.2.1 13), .int (σ.1 769)] : List Value).set 1 (.int x))) = g_cells g (sI σ 769 x) := rfl
theorem gs_13 (g : GC) (σ : St) (x : Nat → Int32) : (g_cells g σ).set 13 (g.2.1 13, .inl (g.2.2 0, 32, .inl x)) = g_cells g (aI σ 13 x) := rfl
theorem gf_897 (g : GC) (σ : St) (x : Int32) : (g_cells g σ).set 14 (g.2.1 14, .inr (2, ([.ref (g.2.1 15), .int (σ.1 897)] : List Value).set 1 (.int x))) = g_cells g (sI σ 897 x) := rfl
theorem gs_15 (g : GC) (σ : St) (x : Nat → Int32) : (g_cells g σ).set 15 (g.2.1 15, .inl (g.2.2 0, 32, .inl x)) = g_cells g (aI σ 15 x) := rfl
theorem gs_16 (g : GC) (σ : St) (x : Nat → Int32) : (g_cells g σ).set 16 (g.2.1 16, .inl (g.2.2 0, 32, .inl x)) = g_cells g (aI σ 16 x) := rfl
theorem gs_17 (g : GC) (σ : St) (x : Nat → Int32) : (g_cells g σ).set 17 (g.2.1 17, .inl (g.2.2 0, 32, .inl x)) = g_cells g (aI σ 17 x) := rfl
theorem gs_19 (g : GC) (σ : St) (x : Nat → Int32) : (g_cells g σ).set 19 (g.2.1 19, .inl (g.2.2 0, 32, .inl x)) = g_cells g (aI σ 19 x) := rfl
theorem gf_1283 (g : GC) (σ : St) (x : Int32) : (g_cells g σ).set 20 (g.2.1 20, .inr (7, ([.ref (g.2.1 21), .ref (g.2.1 22), .ref (g.2.1 23), .int (σ.1 1283), .int (σ.1 1284), .int (σ.1 1285), .int (σ.1 1286)] : List Value).set 3 (.int x))) = g_cells g (sI σ 1283 x) := rfl
theorem gf_1284 (g : GC) (σ : St) (x : Int32) : (g_cells g σ).set 20 (g.2.1 20, .inr (7, ([.ref (g.2.1 21), .ref (g.2.1 22), .ref (g.2.1 23), .int (σ.1 1283), .int (σ.1 1284), .int (σ.1 1285), .int (σ.1 1286)] : List Value).set 4 (.int x))) = g_cells g (sI σ 1284 x) := rfl
theorem gf_1285 (g : GC) (σ : St) (x : Int32) : (g_cells g σ).set 20 (g.2.1 20, .inr (7, ([.ref (g.2.1 21), .ref (g.2.1 22), .ref (g.2.1 23), .int (σ.1 1283), .int (σ.1 1284), .int (σ.1 1285), .int (σ.1 1286)] : List Value).set 5 (.int x))) = g_cells g (sI σ 1285 x) := rfl
theorem gf_1286 (g : GC) (σ : St) (x : Int32) : (g_cells g σ).set 20 (g.2.1 20, .inr (7, ([.ref (g.2.1 21), .ref (g.2.1 22), .ref (g.2.1 23), .int (σ.1 1283), .int (σ.1 1284), .int (σ.1 1285), .int (σ.1 1286)] : List Value).set 6 (.int x))) = g_cells g (sI σ 1286 x) := rfl
theorem gs_21 (g : GC) (σ : St) (x : Nat → Int32) : (g_cells g σ).set 21 (g.2.1 21, .inl (g.2.2 0, 1024, .inl x)) = g_cells g (aI σ 21 x) := rfl
theorem gs_22 (g : GC) (σ : St) (x : Nat → Int32) : (g_cells g σ).set 22 (g.2.1 22, .inl (g.2.2 0, 1024, .inl x)) = g_cells g (aI σ 22 x) := rfl
theorem gs_23 (g : GC) (σ : St) (x : Nat → Int32) : (g_cells g σ).set 23 (g.2.1 23, .inl (g.2.2 0, 32, .inl x)) = g_cells g (aI σ 23 x) := rfl
theorem gf_1539 (g : GC) (σ : St) (x : Int32) : (g_cells g σ).set 24 (g.2.1 24, .inr (0, ([.ref (g.2.1 25), .ref (g.2.1 26), .ref (g.2.1 27), .int (σ.1 1539), .int (σ.1 1540), .int (σ.1 1541), .int (σ.1 1542)] : List Value).set 3 (.int x))) = g_cells g (sI σ 1539 x) := rfl
theorem gf_1540 (g : GC) (σ : St) (x : Int32) : (g_cells g σ).set 24 (g.2.1 24, .inr (0, ([.ref (g.2.1 25), .ref (g.2.1 26), .ref (g.2.1 27), .int (σ.1 1539), .int (σ.1 1540), .int (σ.1 1541), .int (σ.1 1542)] : List Value).set 4 (.int x))) = g_cells g (sI σ 1540 x) := rfl
theorem gf_1541 (g : GC) (σ : St) (x : Int32) : (g_cells g σ).set 24 (g.2.1 24, .inr (0, ([.ref (g.2.1 25), .ref (g.2.1 26), .ref (g.2.1 27), .int (σ.1 1539), .int (σ.1 1540), .int (σ.1 1541), .int (σ.1 1542)] : List Value).set 5 (.int x))) = g_cells g (sI σ 1541 x) := rfl
theorem gf_1542 (g : GC) (σ : St) (x : Int32) : (g_cells g σ).set 24 (g.2.1 24, .inr (0, ([.ref (g.2.1 25), .ref (g.2.1 26), .ref (g.2.1 27), .int (σ.1 1539), .int (σ.1 1540), .int (σ.1 1541), .int (σ.1 1542)] : List Value).set 6 (.int x))) = g_cells g (sI σ 1542 x) := rfl
theorem gs_25 (g : GC) (σ : St) (x : Nat → Int32) : (g_cells g σ).set 25 (g.2.1 25, .inl (g.2.2 0, 32, .inl x)) = g_cells g (aI σ 25 x) := rfl
theorem gs_26 (g : GC) (σ : St) (x : Nat → Int32) : (g_cells g σ).set 26 (g.2.1 26, .inl (g.2.2 0, 32, .inl x)) = g_cells g (aI σ 26 x) := rfl
theorem gs_27 (g : GC) (σ : St) (x : Nat → Int32) : (g_cells g σ).set 27 (g.2.1 27, .inl (g.2.2 0, 32, .inl x)) = g_cells g (aI σ 27 x) := rfl
theorem gf_1800 (g : GC) (σ : St) (x : Int32) : (g_cells g σ).set 28 (g.2.1 28, .inr (6, ([.ref (g.2.1 29), .ref (g.2.1 30), .ref (g.2.1 31), .ref (g.2.1 32), .ref (g.2.1 33), .ref (g.2.1 34), .ref (g.2.1 35), .ref (g.2.1 36), .int (σ.1 1800), .int (σ.1 1801), .int (σ.1 1802), .long (σ.2.1 1803), .int (σ.1 1804)] : List Value).set 8 (.int x))) = g_cells g (sI σ 1800 x) := rfl
theorem gf_1801 (g : GC) (σ : St) (x : Int32) : (g_cells g σ).set 28 (g.2.1 28, .inr (6, ([.ref (g.2.1 29), .ref (g.2.1 30), .ref (g.2.1 31), .ref (g.2.1 32), .ref (g.2.1 33), .ref (g.2.1 34), .ref (g.2.1 35), .ref (g.2.1 36), .int (σ.1 1800), .int (σ.1 1801), .int (σ.1 1802), .long (σ.2.1 1803), .int (σ.1 1804)] : List Value).set 9 (.int x))) = g_cells g (sI σ 1801 x) := rfl
theorem gf_1802 (g : GC) (σ : St) (x : Int32) : (g_cells g σ).set 28 (g.2.1 28, .inr (6, ([.ref (g.2.1 29), .ref (g.2.1 30), .ref (g.2.1 31), .ref (g.2.1 32), .ref (g.2.1 33), .ref (g.2.1 34), .ref (g.2.1 35), .ref (g.2.1 36), .int (σ.1 1800), .int (σ.1 1801), .int (σ.1 1802), .long (σ.2.1 1803), .int (σ.1 1804)] : List Value).set 10 (.int x))) = g_cells g (sI σ 1802 x) := rfl
theorem gf_1803 (g : GC) (σ : St) (x : Int64) : (g_cells g σ).set 28 (g.2.1 28, .inr (6, ([.ref (g.2.1 29), .ref (g.2.1 30), .ref (g.2.1 31), .ref (g.2.1 32), .ref (g.2.1 33), .ref (g.2.1 34), .ref (g.2.1 35), .ref (g.2.1 36), .int (σ.1 1800), .int (σ.1 1801), .int (σ.1 1802), .long (σ.2.1 1803), .int (σ.1 1804)] : List Value).set 11 (.long x))) = g_cells g (sL σ 1803 x) := rfl
theorem gf_1804 (g : GC) (σ : St) (x : Int32) : (g_cells g σ).set 28 (g.2.1 28, .inr (6, ([.ref (g.2.1 29), .ref (g.2.1 30), .ref (g.2.1 31), .ref (g.2.1 32), .ref (g.2.1 33), .ref (g.2.1 34), .ref (g.2.1 35), .ref (g.2.1 36), .int (σ.1 1800), .int (σ.1 1801), .int (σ.1 1802), .long (σ.2.1 1803), .int (σ.1 1804)] : List Value).set 12 (.int x))) = g_cells g (sI σ 1804 x) := rfl
theorem gs_29 (g : GC) (σ : St) (x : Nat → Int32) : (g_cells g σ).set 29 (g.2.1 29, .inl (g.2.2 0, 6, .inl x)) = g_cells g (aI σ 29 x) := rfl
theorem gs_30 (g : GC) (σ : St) (x : Nat → Int32) : (g_cells g σ).set 30 (g.2.1 30, .inl (g.2.2 0, 6, .inl x)) = g_cells g (aI σ 30 x) := rfl
theorem gs_31 (g : GC) (σ : St) (x : Nat → Int64) : (g_cells g σ).set 31 (g.2.1 31, .inl (g.2.2 1, 6, .inr (.inl x))) = g_cells g (aL σ 31 x) := rfl
theorem gs_32 (g : GC) (σ : St) (x : Nat → Int64) : (g_cells g σ).set 32 (g.2.1 32, .inl (g.2.2 1, 216, .inr (.inl x))) = g_cells g (aL σ 32 x) := rfl
theorem gs_33 (g : GC) (σ : St) (x : Nat → Int64) : (g_cells g σ).set 33 (g.2.1 33, .inl (g.2.2 1, 7, .inr (.inl x))) = g_cells g (aL σ 33 x) := rfl
theorem gs_34 (g : GC) (σ : St) (x : Nat → Int64) : (g_cells g σ).set 34 (g.2.1 34, .inl (g.2.2 1, 6, .inr (.inl x))) = g_cells g (aL σ 34 x) := rfl
theorem gs_35 (g : GC) (σ : St) (x : Nat → Int32) : (g_cells g σ).set 35 (g.2.1 35, .inl (g.2.2 0, 6, .inl x)) = g_cells g (aI σ 35 x) := rfl
theorem gs_36 (g : GC) (σ : St) (x : Nat → Int32) : (g_cells g σ).set 36 (g.2.1 36, .inl (g.2.2 0, 6, .inl x)) = g_cells g (aI σ 36 x) := rfl
theorem gf_2371 (g : GC) (σ : St) (x : Int32) : (g_cells g σ).set 37 (g.2.1 37, .inr (4, ([.ref (g.2.1 38), .ref (g.2.1 39), .ref (g.2.1 40), .int (σ.1 2371), .int (σ.1 2372), .int (σ.1 2373)] : List Value).set 3 (.int x))) = g_cells g (sI σ 2371 x) := rfl
theorem gf_2372 (g : GC) (σ : St) (x : Int32) : (g_cells g σ).set 37 (g.2.1 37, .inr (4, ([.ref (g.2.1 38), .ref (g.2.1 39), .ref (g.2.1 40), .int (σ.1 2371), .int (σ.1 2372), .int (σ.1 2373)] : List Value).set 4 (.int x))) = g_cells g (sI σ 2372 x) := rfl
theorem gf_2373 (g : GC) (σ : St) (x : Int32) : (g_cells g σ).set 37 (g.2.1 37, .inr (4, ([.ref (g.2.1 38), .ref (g.2.1 39), .ref (g.2.1 40), .int (σ.1 2371), .int (σ.1 2372), .int (σ.1 2373)] : List Value).set 5 (.int x))) = g_cells g (sI σ 2373 x) := rfl
theorem gs_38 (g : GC) (σ : St) (x : Nat → Int32) : (g_cells g σ).set 38 (g.2.1 38, .inl (g.2.2 0, 32, .inl x)) = g_cells g (aI σ 38 x) := rfl
theorem gs_39 (g : GC) (σ : St) (x : Nat → Int32) : (g_cells g σ).set 39 (g.2.1 39, .inl (g.2.2 0, 32, .inl x)) = g_cells g (aI σ 39 x) := rfl
theorem gs_40 (g : GC) (σ : St) (x : Nat → Int32) : (g_cells g σ).set 40 (g.2.1 40, .inl (g.2.2 0, 32, .inl x)) = g_cells g (aI σ 40 x) := rfl
theorem gf_2632 (g : GC) (σ : St) (x : Int32) : (g_cells g σ).set 41 (g.2.1 41, .inr (3, ([.ref (g.2.1 42), .ref (g.2.1 43), .ref (g.2.1 44), .ref (g.2.1 45), .ref (g.2.1 46), .ref (g.2.1 47), .ref (g.2.1 48), .ref (g.2.1 49), .int (σ.1 2632), .int (σ.1 2633), .int (σ.1 2634)] : List Value).set 8 (.int x))) = g_cells g (sI σ 2632 x) := rfl
theorem gf_2633 (g : GC) (σ : St) (x : Int32) : (g_cells g σ).set 41 (g.2.1 41, .inr (3, ([.ref (g.2.1 42), .ref (g.2.1 43), .ref (g.2.1 44), .ref (g.2.1 45), .ref (g.2.1 46), .ref (g.2.1 47), .ref (g.2.1 48), .ref (g.2.1 49), .int (σ.1 2632), .int (σ.1 2633), .int (σ.1 2634)] : List Value).set 9 (.int x))) = g_cells g (sI σ 2633 x) := rfl
theorem gf_2634 (g : GC) (σ : St) (x : Int32) : (g_cells g σ).set 41 (g.2.1 41, .inr (3, ([.ref (g.2.1 42), .ref (g.2.1 43), .ref (g.2.1 44), .ref (g.2.1 45), .ref (g.2.1 46), .ref (g.2.1 47), .ref (g.2.1 48), .ref (g.2.1 49), .int (σ.1 2632), .int (σ.1 2633), .int (σ.1 2634)] : List Value).set 10 (.int x))) = g_cells g (sI σ 2634 x) := rfl
theorem gs_42 (g : GC) (σ : St) (x : Nat → Int32) : (g_cells g σ).set 42 (g.2.1 42, .inl (g.2.2 0, 1024, .inl x)) = g_cells g (aI σ 42 x) := rfl
theorem gs_43 (g : GC) (σ : St) (x : Nat → Int32) : (g_cells g σ).set 43 (g.2.1 43, .inl (g.2.2 0, 1024, .inl x)) = g_cells g (aI σ 43 x) := rfl
theorem gs_44 (g : GC) (σ : St) (x : Nat → Int32) : (g_cells g σ).set 44 (g.2.1 44, .inl (g.2.2 0, 1024, .inl x)) = g_cells g (aI σ 44 x) := rfl
theorem gs_45 (g : GC) (σ : St) (x : Nat → Int32) : (g_cells g σ).set 45 (g.2.1 45, .inl (g.2.2 0, 1024, .inl x)) = g_cells g (aI σ 45 x) := rfl
theorem gs_46 (g : GC) (σ : St) (x : Nat → Int32) : (g_cells g σ).set 46 (g.2.1 46, .inl (g.2.2 0, 1024, .inl x)) = g_cells g (aI σ 46 x) := rfl
theorem gs_47 (g : GC) (σ : St) (x : Nat → Int64) : (g_cells g σ).set 47 (g.2.1 47, .inl (g.2.2 1, 1024, .inr (.inl x))) = g_cells g (aL σ 47 x) := rfl
theorem gs_48 (g : GC) (σ : St) (x : Nat → Int32) : (g_cells g σ).set 48 (g.2.1 48, .inl (g.2.2 0, 32, .inl x)) = g_cells g (aI σ 48 x) := rfl
theorem gs_49 (g : GC) (σ : St) (x : Nat → Int32) : (g_cells g σ).set 49 (g.2.1 49, .inl (g.2.2 0, 32, .inl x)) = g_cells g (aI σ 49 x) := rfl
theorem gf_3203 (g : GC) (σ : St) (x : Int32) : (g_cells g σ).set 50 (g.2.1 50, .inr (9, ([.ref (g.2.1 51), .ref (g.2.1 52), .ref (g.2.1 53), .int (σ.1 3203), .ref (g.2.1 54), .int (σ.1 3205), .int (σ.1 3206), .ref (g.2.1 55), .int (σ.1 3208), .ref (g.2.1 56), .ref (g.2.1 57), .ref (g.2.1 58), .int (σ.1 3212), .ref (g.2.1 59), .int (σ.1 3214), .int (σ.1 3215), .ref (g.2.1 60), .ref (g.2.1 61), .ref (g.2.1 62), .ref (g.2.1 63), .ref (g.2.1 64), .int (σ.1 3221), .int (σ.1 3222), .ref (g.2.1 65), .long (σ.2.1 3224), .ref (g.2.1 66), .ref (g.2.1 67), .ref (g.2.1 68), .ref (g.2.1 69), .ref (g.2.1 70), .ref (g.2.1 71), .ref (g.2.1 72), .ref (g.2.1 73), .ref (g.2.1 74), .ref (g.2.1 75), .int (σ.1 3235), .ref (g.2.1 76), .ref (g.2.1 77), .int (σ.1 3238), .ref (g.2.1 78), .ref (g.2.1 79), .ref (g.2.1 80), .int (σ.1 3242), .ref (g.2.1 81)] : List Value).set 3 (.int x))) = g_cells g (sI σ 3203 x) := rfl
theorem gf_3205 (g : GC) (σ : St) (x : Int32) : (g_cells g σ).set 50 (g.2.1 50, .inr (9, ([.ref (g.2.1 51), .ref (g.2.1 52), .ref (g.2.1 53), .int (σ.1 3203), .ref (g.2.1 54), .int (σ.1 3205), .int (σ.1 3206), .ref (g.2.1 55), .int (σ.1 3208), .ref (g.2.1 56), .ref (g.2.1 57), .ref (g.2.1 58), .int (σ.1 3212), .ref (g.2.1 59), .int (σ.1 3214), .int (σ.1 3215), .ref (g.2.1 60), .ref (g.2.1 61), .ref (g.2.1 62), .ref (g.2.1 63), .ref (g.2.1 64), .int (σ.1 3221), .int (σ.1 3222), .ref (g.2.1 65), .long (σ.2.1 3224), .ref (g.2.1 66), .ref (g.2.1 67), .ref (g.2.1 68), .ref (g.2.1 69), .ref (g.2.1 70), .ref (g.2.1 71), .ref (g.2.1 72), .ref (g.2.1 73), .ref (g.2.1 74), .ref (g.2.1 75), .int (σ.1 3235), .ref (g.2.1 76), .ref (g.2.1 77), .int (σ.1 3238), .ref (g.2.1 78), .ref (g.2.1 79), .ref (g.2.1 80), .int (σ.1 3242), .ref (g.2.1 81)] : List Value).set 5 (.int x))) = g_cells g (sI σ 3205 x) := rfl
theorem gf_3206 (g : GC) (σ : St) (x : Int32) : (g_cells g σ).set 50 (g.2.1 50, .inr (9, ([.ref (g.2.1 51), .ref (g.2.1 52), .ref (g.2.1 53), .int (σ.1 3203), .ref (g.2.1 54), .int (σ.1 3205), .int (σ.1 3206), .ref (g.2.1 55), .int (σ.1 3208), .ref (g.2.1 56), .ref (g.2.1 57), .ref (g.2.1 58), .int (σ.1 3212), .ref (g.2.1 59), .int (σ.1 3214), .int (σ.1 3215), .ref (g.2.1 60), .ref (g.2.1 61), .ref (g.2.1 62), .ref (g.2.1 63), .ref (g.2.1 64), .int (σ.1 3221), .int (σ.1 3222), .ref (g.2.1 65), .long (σ.2.1 3224), .ref (g.2.1 66), .ref (g.2.1 67), .ref (g.2.1 68), .ref (g.2.1 69), .ref (g.2.1 70), .ref (g.2.1 71), .ref (g.2.1 72), .ref (g.2.1 73), .ref (g.2.1 74), .ref (g.2.1 75), .int (σ.1 3235), .ref (g.2.1 76), .ref (g.2.1 77), .int (σ.1 3238), .ref (g.2.1 78), .ref (g.2.1 79), .ref (g.2.1 80), .int (σ.1 3242), .ref (g.2.1 81)] : List Value).set 6 (.int x))) = g_cells g (sI σ 3206 x) := rfl
theorem gf_3208 (g : GC) (σ : St) (x : Int32) : (g_cells g σ).set 50 (g.2.1 50, .inr (9, ([.ref (g.2.1 51), .ref (g.2.1 52), .ref (g.2.1 53), .int (σ.1 3203), .ref (g.2.1 54), .int (σ.1 3205), .int (σ.1 3206), .ref (g.2.1 55), .int (σ.1 3208), .ref (g.2.1 56), .ref (g.2.1 57), .ref (g.2.1 58), .int (σ.1 3212), .ref (g.2.1 59), .int (σ.1 3214), .int (σ.1 3215), .ref (g.2.1 60), .ref (g.2.1 61), .ref (g.2.1 62), .ref (g.2.1 63), .ref (g.2.1 64), .int (σ.1 3221), .int (σ.1 3222), .ref (g.2.1 65), .long (σ.2.1 3224), .ref (g.2.1 66), .ref (g.2.1 67), .ref (g.2.1 68), .ref (g.2.1 69), .ref (g.2.1 70), .ref (g.2.1 71), .ref (g.2.1 72), .ref (g.2.1 73), .ref (g.2.1 74), .ref (g.2.1 75), .int (σ.1 3235), .ref (g.2.1 76), .ref (g.2.1 77), .int (σ.1 3238), .ref (g.2.1 78), .ref (g.2.1 79), .ref (g.2.1 80), .int (σ.1 3242), .ref (g.2.1 81)] : List Value).set 8 (.int x))) = g_cells g (sI σ 3208 x) := rfl
theorem gf_3212 (g : GC) (σ : St) (x : Int32) : (g_cells g σ).set 50 (g.2.1 50, .inr (9, ([.ref (g.2.1 51), .ref (g.2.1 52), .ref (g.2.1 53), .int (σ.1 3203), .ref (g.2.1 54), .int (σ.1 3205), .int (σ.1 3206), .ref (g.2.1 55), .int (σ.1 3208), .ref (g.2.1 56), .ref (g.2.1 57), .ref (g.2.1 58), .int (σ.1 3212), .ref (g.2.1 59), .int (σ.1 3214), .int (σ.1 3215), .ref (g.2.1 60), .ref (g.2.1 61), .ref (g.2.1 62), .ref (g.2.1 63), .ref (g.2.1 64), .int (σ.1 3221), .int (σ.1 3222), .ref (g.2.1 65), .long (σ.2.1 3224), .ref (g.2.1 66), .ref (g.2.1 67), .ref (g.2.1 68), .ref (g.2.1 69), .ref (g.2.1 70), .ref (g.2.1 71), .ref (g.2.1 72), .ref (g.2.1 73), .ref (g.2.1 74), .ref (g.2.1 75), .int (σ.1 3235), .ref (g.2.1 76), .ref (g.2.1 77), .int (σ.1 3238), .ref (g.2.1 78), .ref (g.2.1 79), .ref (g.2.1 80), .int (σ.1 3242), .ref (g.2.1 81)] : List Value).set 12 (.int x))) = g_cells g (sI σ 3212 x) := rfl
theorem gf_3214 (g : GC) (σ : St) (x : Int32) : (g_cells g σ).set 50 (g.2.1 50, .inr (9, ([.ref (g.2.1 51), .ref (g.2.1 52), .ref (g.2.1 53), .int (σ.1 3203), .ref (g.2.1 54), .int (σ.1 3205), .int (σ.1 3206), .ref (g.2.1 55), .int (σ.1 3208), .ref (g.2.1 56), .ref (g.2.1 57), .ref (g.2.1 58), .int (σ.1 3212), .ref (g.2.1 59), .int (σ.1 3214), .int (σ.1 3215), .ref (g.2.1 60), .ref (g.2.1 61), .ref (g.2.1 62), .ref (g.2.1 63), .ref (g.2.1 64), .int (σ.1 3221), .int (σ.1 3222), .ref (g.2.1 65), .long (σ.2.1 3224), .ref (g.2.1 66), .ref (g.2.1 67), .ref (g.2.1 68), .ref (g.2.1 69), .ref (g.2.1 70), .ref (g.2.1 71), .ref (g.2.1 72), .ref (g.2.1 73), .ref (g.2.1 74), .ref (g.2.1 75), .int (σ.1 3235), .ref (g.2.1 76), .ref (g.2.1 77), .int (σ.1 3238), .ref (g.2.1 78), .ref (g.2.1 79), .ref (g.2.1 80), .int (σ.1 3242), .ref (g.2.1 81)] : List Value).set 14 (.int x))) = g_cells g (sI σ 3214 x) := rfl
theorem gf_3215 (g : GC) (σ : St) (x : Int32) : (g_cells g σ).set 50 (g.2.1 50, .inr (9, ([.ref (g.2.1 51), .ref (g.2.1 52), .ref (g.2.1 53), .int (σ.1 3203), .ref (g.2.1 54), .int (σ.1 3205), .int (σ.1 3206), .ref (g.2.1 55), .int (σ.1 3208), .ref (g.2.1 56), .ref (g.2.1 57), .ref (g.2.1 58), .int (σ.1 3212), .ref (g.2.1 59), .int (σ.1 3214), .int (σ.1 3215), .ref (g.2.1 60), .ref (g.2.1 61), .ref (g.2.1 62), .ref (g.2.1 63), .ref (g.2.1 64), .int (σ.1 3221), .int (σ.1 3222), .ref (g.2.1 65), .long (σ.2.1 3224), .ref (g.2.1 66), .ref (g.2.1 67), .ref (g.2.1 68), .ref (g.2.1 69), .ref (g.2.1 70), .ref (g.2.1 71), .ref (g.2.1 72), .ref (g.2.1 73), .ref (g.2.1 74), .ref (g.2.1 75), .int (σ.1 3235), .ref (g.2.1 76), .ref (g.2.1 77), .int (σ.1 3238), .ref (g.2.1 78), .ref (g.2.1 79), .ref (g.2.1 80), .int (σ.1 3242), .ref (g.2.1 81)] : List Value).set 15 (.int x))) = g_cells g (sI σ 3215 x) := rfl
theorem gf_3221 (g : GC) (σ : St) (x : Int32) : (g_cells g σ).set 50 (g.2.1 50, .inr (9, ([.ref (g.2.1 51), .ref (g.2.1 52), .ref (g.2.1 53), .int (σ.1 3203), .ref (g.2.1 54), .int (σ.1 3205), .int (σ.1 3206), .ref (g.2.1 55), .int (σ.1 3208), .ref (g.2.1 56), .ref (g.2.1 57), .ref (g.2.1 58), .int (σ.1 3212), .ref (g.2.1 59), .int (σ.1 3214), .int (σ.1 3215), .ref (g.2.1 60), .ref (g.2.1 61), .ref (g.2.1 62), .ref (g.2.1 63), .ref (g.2.1 64), .int (σ.1 3221), .int (σ.1 3222), .ref (g.2.1 65), .long (σ.2.1 3224), .ref (g.2.1 66), .ref (g.2.1 67), .ref (g.2.1 68), .ref (g.2.1 69), .ref (g.2.1 70), .ref (g.2.1 71), .ref (g.2.1 72), .ref (g.2.1 73), .ref (g.2.1 74), .ref (g.2.1 75), .int (σ.1 3235), .ref (g.2.1 76), .ref (g.2.1 77), .int (σ.1 3238), .ref (g.2.1 78), .ref (g.2.1 79), .ref (g.2.1 80), .int (σ.1 3242), .ref (g.2.1 81)] : List Value).set 21 (.int x))) = g_cells g (sI σ 3221 x) := rfl
theorem gf_3222 (g : GC) (σ : St) (x : Int32) : (g_cells g σ).set 50 (g.2.1 50, .inr (9, ([.ref (g.2.1 51), .ref (g.2.1 52), .ref (g.2.1 53), .int (σ.1 3203), .ref (g.2.1 54), .int (σ.1 3205), .int (σ.1 3206), .ref (g.2.1 55), .int (σ.1 3208), .ref (g.2.1 56), .ref (g.2.1 57), .ref (g.2.1 58), .int (σ.1 3212), .ref (g.2.1 59), .int (σ.1 3214), .int (σ.1 3215), .ref (g.2.1 60), .ref (g.2.1 61), .ref (g.2.1 62), .ref (g.2.1 63), .ref (g.2.1 64), .int (σ.1 3221), .int (σ.1 3222), .ref (g.2.1 65), .long (σ.2.1 3224), .ref (g.2.1 66), .ref (g.2.1 67), .ref (g.2.1 68), .ref (g.2.1 69), .ref (g.2.1 70), .ref (g.2.1 71), .ref (g.2.1 72), .ref (g.2.1 73), .ref (g.2.1 74), .ref (g.2.1 75), .int (σ.1 3235), .ref (g.2.1 76), .ref (g.2.1 77), .int (σ.1 3238), .ref (g.2.1 78), .ref (g.2.1 79), .ref (g.2.1 80), .int (σ.1 3242), .ref (g.2.1 81)] : List Value).set 22 (.int x))) = g_cells g (sI σ 3222 x) := rfl
theorem gf_3224 (g : GC) (σ : St) (x : Int64) : (g_cells g σ).set 50 (g.2.1 50, .inr (9, ([.ref (g.2.1 51), .ref (g.2.1 52), .ref (g.2.1 53), .int (σ.1 3203), .ref (g.2.1 54), .int (σ.1 3205), .int (σ.1 3206), .ref (g.2.1 55), .int (σ.1 3208), .ref (g.2.1 56), .ref (g.2.1 57), .ref (g.2.1 58), .int (σ.1 3212), .ref (g.2.1 59), .int (σ.1 3214), .int (σ.1 3215), .ref (g.2.1 60), .ref (g.2.1 61), .ref (g.2.1 62), .ref (g.2.1 63), .ref (g.2.1 64), .int (σ.1 3221), .int (σ.1 3222), .ref (g.2.1 65), .long (σ.2.1 3224), .ref (g.2.1 66), .ref (g.2.1 67), .ref (g.2.1 68), .ref (g.2.1 69), .ref (g.2.1 70), .ref (g.2.1 71), .ref (g.2.1 72), .ref (g.2.1 73), .ref (g.2.1 74), .ref (g.2.1 75), .int (σ.1 3235), .ref (g.2.1 76), .ref (g.2.1 77), .int (σ.1 3238), .ref (g.2.1 78), .ref (g.2.1 79), .ref (g.2.1 80), .int (σ.1 3242), .ref (g.2.1 81)] : List Value).set 24 (.long x))) = g_cells g (sL σ 3224 x) := rfl
theorem gf_3235 (g : GC) (σ : St) (x : Int32) : (g_cells g σ).set 50 (g.2.1 50, .inr (9, ([.ref (g.2.1 51), .ref (g.2.1 52), .ref (g.2.1 53), .int (σ.1 3203), .ref (g.2.1 54), .int (σ.1 3205), .int (σ.1 3206), .ref (g.2.1 55), .int (σ.1 3208), .ref (g.2.1 56), .ref (g.2.1 57), .ref (g.2.1 58), .int (σ.1 3212), .ref (g.2.1 59), .int (σ.1 3214), .int (σ.1 3215), .ref (g.2.1 60), .ref (g.2.1 61), .ref (g.2.1 62), .ref (g.2.1 63), .ref (g.2.1 64), .int (σ.1 3221), .int (σ.1 3222), .ref (g.2.1 65), .long (σ.2.1 3224), .ref (g.2.1 66), .ref (g.2.1 67), .ref (g.2.1 68), .ref (g.2.1 69), .ref (g.2.1 70), .ref (g.2.1 71), .ref (g.2.1 72), .ref (g.2.1 73), .ref (g.2.1 74), .ref (g.2.1 75), .int (σ.1 3235), .ref (g.2.1 76), .ref (g.2.1 77), .int (σ.1 3238), .ref (g.2.1 78), .ref (g.2.1 79), .ref (g.2.1 80), .int (σ.1 3242), .ref (g.2.1 81)] : List Value).set 35 (.int x))) = g_cells g (sI σ 3235 x) := rfl
theorem gf_3238 (g : GC) (σ : St) (x : Int32) : (g_cells g σ).set 50 (g.2.1 50, .inr (9, ([.ref (g.2.1 51), .ref (g.2.1 52), .ref (g.2.1 53), .int (σ.1 3203), .ref (g.2.1 54), .int (σ.1 3205), .int (σ.1 3206), .ref (g.2.1 55), .int (σ.1 3208), .ref (g.2.1 56), .ref (g.2.1 57), .ref (g.2.1 58), .int (σ.1 3212), .ref (g.2.1 59), .int (σ.1 3214), .int (σ.1 3215), .ref (g.2.1 60), .ref (g.2.1 61), .ref (g.2.1 62), .ref (g.2.1 63), .ref (g.2.1 64), .int (σ.1 3221), .int (σ.1 3222), .ref (g.2.1 65), .long (σ.2.1 3224), .ref (g.2.1 66), .ref (g.2.1 67), .ref (g.2.1 68), .ref (g.2.1 69), .ref (g.2.1 70), .ref (g.2.1 71), .ref (g.2.1 72), .ref (g.2.1 73), .ref (g.2.1 74), .ref (g.2.1 75), .int (σ.1 3235), .ref (g.2.1 76), .ref (g.2.1 77), .int (σ.1 3238), .ref (g.2.1 78), .ref (g.2.1 79), .ref (g.2.1 80), .int (σ.1 3242), .ref (g.2.1 81)] : List Value).set 38 (.int x))) = g_cells g (sI σ 3238 x) := rfl
theorem gf_3242 (g : GC) (σ : St) (x : Int32) : (g_cells g σ).set 50 (g.2.1 50, .inr (9, ([.ref (g.2.1 51), .ref (g.2.1 52), .ref (g.2.1 53), .int (σ.1 3203), .ref (g.2.1 54), .int (σ.1 3205), .int (σ.1 3206), .ref (g.2.1 55), .int (σ.1 3208), .ref (g.2.1 56), .ref (g.2.1 57), .ref (g.2.1 58), .int (σ.1 3212), .ref (g.2.1 59), .int (σ.1 3214), .int (σ.1 3215), .ref (g.2.1 60), .ref (g.2.1 61), .ref (g.2.1 62), .ref (g.2.1 63), .ref (g.2.1 64), .int (σ.1 3221), .int (σ.1 3222), .ref (g.2.1 65), .long (σ.2.1 3224), .ref (g.2.1 66), .ref (g.2.1 67), .ref (g.2.1 68), .ref (g.2.1 69), .ref (g.2.1 70), .ref (g.2.1 71), .ref (g.2.1 72), .ref (g.2.1 73), .ref (g.2.1 74), .ref (g.2.1 75), .int (σ.1 3235), .ref (g.2.1 76), .ref (g.2.1 77), .int (σ.1 3238), .ref (g.2.1 78), .ref (g.2.1 79), .ref (g.2.1 80), .int (σ.1 3242), .ref (g.2.1 81)] : List Value).set 42 (.int x))) = g_cells g (sI σ 3242 x) := rfl
theorem gs_51 (g : GC) (σ : St) (x : Nat → Int32) : (g_cells g σ).set 51 (g.2.1 51, .inl (g.2.2 0, 4, .inl x)) = g_cells g (aI σ 51 x) := rfl
theorem gs_52 (g : GC) (σ : St) (x : Nat → Int32) : (g_cells g σ).set 52 (g.2.1 52, .inl (g.2.2 0, 4, .inl x)) = g_cells g (aI σ 52 x) := rfl
theorem gs_53 (g : GC) (σ : St) (x : Nat → Int32) : (g_cells g σ).set 53 (g.2.1 53, .inl (g.2.2 0, 240, .inl x)) = g_cells g (aI σ 53 x) := rfl
theorem gs_54 (g : GC) (σ : St) (x : Nat → Int32) : (g_cells g σ).set 54 (g.2.1 54, .inl (g.2.2 2, 1024, .inl x)) = g_cells g (aI σ 54 x) := rfl
theorem gs_55 (g : GC) (σ : St) (x : Nat → Int32) : (g_cells g σ).set 55 (g.2.1 55, .inl (g.2.2 2, 1024, .inl x)) = g_cells g (aI σ 55 x) := rfl
theorem gs_56 (g : GC) (σ : St) (x : Nat → Int32) : (g_cells g σ).set 56 (g.2.1 56, .inl (g.2.2 0, 6, .inl x)) = g_cells g (aI σ 56 x) := rfl
theorem gs_57 (g : GC) (σ : St) (x : Nat → Int32) : (g_cells g σ).set 57 (g.2.1 57, .inl (g.2.2 0, 6, .inl x)) = g_cells g (aI σ 57 x) := rfl
theorem gs_58 (g : GC) (σ : St) (x : Nat → Int32) : (g_cells g σ).set 58 (g.2.1 58, .inl (g.2.2 0, 33, .inl x)) = g_cells g (aI σ 58 x) := rfl
theorem gs_59 (g : GC) (σ : St) (x : Nat → Int32) : (g_cells g σ).set 59 (g.2.1 59, .inl (g.2.2 0, 1024, .inl x)) = g_cells g (aI σ 59 x) := rfl
theorem gs_60 (g : GC) (σ : St) (x : Nat → Int32) : (g_cells g σ).set 60 (g.2.1 60, .inl (g.2.2 0, 32, .inl x)) = g_cells g (aI σ 60 x) := rfl
theorem gs_61 (g : GC) (σ : St) (x : Nat → Int32) : (g_cells g σ).set 61 (g.2.1 61, .inl (g.2.2 0, 33, .inl x)) = g_cells g (aI σ 61 x) := rfl
theorem gs_62 (g : GC) (σ : St) (x : Nat → Int32) : (g_cells g σ).set 62 (g.2.1 62, .inl (g.2.2 0, 33, .inl x)) = g_cells g (aI σ 62 x) := rfl
theorem gs_63 (g : GC) (σ : St) (x : Nat → Int32) : (g_cells g σ).set 63 (g.2.1 63, .inl (g.2.2 0, 33, .inl x)) = g_cells g (aI σ 63 x) := rfl
theorem gs_64 (g : GC) (σ : St) (x : Nat → Int32) : (g_cells g σ).set 64 (g.2.1 64, .inl (g.2.2 2, 33, .inl x)) = g_cells g (aI σ 64 x) := rfl
theorem gs_65 (g : GC) (σ : St) (x : Nat → Int64) : (g_cells g σ).set 65 (g.2.1 65, .inl (g.2.2 1, 6, .inr (.inl x))) = g_cells g (aL σ 65 x) := rfl
theorem gs_66 (g : GC) (σ : St) (x : Nat → Int64) : (g_cells g σ).set 66 (g.2.1 66, .inl (g.2.2 1, 216, .inr (.inl x))) = g_cells g (aL σ 66 x) := rfl
theorem gs_67 (g : GC) (σ : St) (x : Nat → Int64) : (g_cells g σ).set 67 (g.2.1 67, .inl (g.2.2 1, 6, .inr (.inl x))) = g_cells g (aL σ 67 x) := rfl
theorem gs_68 (g : GC) (σ : St) (x : Nat → Int64) : (g_cells g σ).set 68 (g.2.1 68, .inl (g.2.2 1, 6, .inr (.inl x))) = g_cells g (aL σ 68 x) := rfl
theorem gs_69 (g : GC) (σ : St) (x : Nat → Int64) : (g_cells g σ).set 69 (g.2.1 69, .inl (g.2.2 1, 6, .inr (.inl x))) = g_cells g (aL σ 69 x) := rfl
theorem gs_70 (g : GC) (σ : St) (x : Nat → Int32) : (g_cells g σ).set 70 (g.2.1 70, .inl (g.2.2 2, 1024, .inl x)) = g_cells g (aI σ 70 x) := rfl
theorem gs_71 (g : GC) (σ : St) (x : Nat → Int32) : (g_cells g σ).set 71 (g.2.1 71, .inl (g.2.2 0, 32, .inl x)) = g_cells g (aI σ 71 x) := rfl
theorem gs_72 (g : GC) (σ : St) (x : Nat → Int32) : (g_cells g σ).set 72 (g.2.1 72, .inl (g.2.2 0, 32, .inl x)) = g_cells g (aI σ 72 x) := rfl
theorem gs_73 (g : GC) (σ : St) (x : Nat → Int32) : (g_cells g σ).set 73 (g.2.1 73, .inl (g.2.2 0, 32, .inl x)) = g_cells g (aI σ 73 x) := rfl
theorem gs_74 (g : GC) (σ : St) (x : Nat → Int32) : (g_cells g σ).set 74 (g.2.1 74, .inl (g.2.2 0, 33, .inl x)) = g_cells g (aI σ 74 x) := rfl
theorem gs_75 (g : GC) (σ : St) (x : Nat → Int32) : (g_cells g σ).set 75 (g.2.1 75, .inl (g.2.2 0, 33, .inl x)) = g_cells g (aI σ 75 x) := rfl
theorem gs_76 (g : GC) (σ : St) (x : Nat → Int32) : (g_cells g σ).set 76 (g.2.1 76, .inl (g.2.2 0, 32, .inl x)) = g_cells g (aI σ 76 x) := rfl
theorem gs_77 (g : GC) (σ : St) (x : Nat → Int32) : (g_cells g σ).set 77 (g.2.1 77, .inl (g.2.2 0, 33, .inl x)) = g_cells g (aI σ 77 x) := rfl
theorem gs_78 (g : GC) (σ : St) (x : Nat → Int32) : (g_cells g σ).set 78 (g.2.1 78, .inl (g.2.2 0, 1024, .inl x)) = g_cells g (aI σ 78 x) := rfl
theorem gs_79 (g : GC) (σ : St) (x : Nat → Int32) : (g_cells g σ).set 79 (g.2.1 79, .inl (g.2.2 0, 1024, .inl x)) = g_cells g (aI σ 79 x) := rfl
theorem gs_80 (g : GC) (σ : St) (x : Nat → Int32) : (g_cells g σ).set 80 (g.2.1 80, .inl (g.2.2 0, 32768, .inl x)) = g_cells g (aI σ 80 x) := rfl
theorem gs_81 (g : GC) (σ : St) (x : Nat → Int32) : (g_cells g σ).set 81 (g.2.1 81, .inl (g.2.2 0, 1024, .inl x)) = g_cells g (aI σ 81 x) := rfl
