/-! the model's ways -/
def wy (d : Nat) : Int32 := if d < 33 then nI d else 99
theorem lit99 : (99 : Int32) = nI 99 := rfl
/-- row p of wayOf in the middle of pass i: P is what this pass has told -/
def mI (adj : Nat → Nat → Bool) (n p i : Nat) (w0 : Nat → Int32) (P : Nat → Prop) (w : Nat → Int32) : Prop :=
  (∀ z, z < 32 → (dN adj n p z ≤ i → w (32 * p + z) = nI (dN adj n p z)) ∧ (¬ dN adj n p z ≤ i → P z → w (32 * p + z) = nI (i + 1)) ∧ (¬ dN adj n p z ≤ i → ¬ P z → w (32 * p + z) = 99)) ∧ ∀ j, (j < 32 * p ∨ 32 * p + 32 ≤ j) → w j = w0 j
theorem mI_congr {adj : Nat → Nat → Bool} {n p i : Nat} {w0 w : Nat → Int32} {P Q : Nat → Prop} (h : mI adj n p i w0 P w) (e : ∀ z, z < 32 → ¬ dN adj n p z ≤ i → (P z ↔ Q z)) : mI adj n p i w0 Q w :=
  ⟨fun z hz => ⟨(h.1 z hz).1, fun c q => (h.1 z hz).2.1 c ((e z hz c).mpr q), fun c q => (h.1 z hz).2.2 c (fun q2 => q ((e z hz c).mp q2))⟩, h.2⟩
theorem mI_is {adj : Nat → Nat → Bool} {n p i : Nat} {w0 w : Nat → Int32} {P : Nat → Prop} (h : mI adj n p i w0 P w) (hi : i < 33) {q : Nat} (hq : q < 32) : w (32 * p + q) = nI i ↔ dN adj n p q = i := by
  have hd := dN_le (adj := adj) (n := n) p q
  by_cases c : dN adj n p q ≤ i
  · rw [(h.1 q hq).1 c, nI_eq (by omega) (by omega)]
  · by_cases c2 : P q
    · rw [(h.1 q hq).2.1 c c2, nI_eq (by omega) (by omega)]; omega
    · rw [(h.1 q hq).2.2 c c2, lit99, nI_eq (by omega) (by omega)]; omega
theorem mI_none {adj : Nat → Nat → Bool} {n p i : Nat} {w0 w : Nat → Int32} {P : Nat → Prop} (h : mI adj n p i w0 P w) (hi : i < 33) {q : Nat} (hq : q < 32) : w (32 * p + q) = 99 ↔ (¬ dN adj n p q ≤ i ∧ ¬ P q) := by
  have hd := dN_le (adj := adj) (n := n) p q
  by_cases c : dN adj n p q ≤ i
  · rw [(h.1 q hq).1 c, lit99, nI_eq (by omega) (by omega)]; omega
  · by_cases c2 : P q
    · rw [(h.1 q hq).2.1 c c2, lit99, nI_eq (by omega) (by omega)]
      exact ⟨fun e => by omega, fun e => absurd c2 e.2⟩
    · rw [(h.1 q hq).2.2 c c2]
      exact ⟨fun _ => ⟨c, c2⟩, fun _ => rfl⟩
theorem M_measureFrom_s {n p : Nat} {road w0 : Nat → Int32} {adj : Nat → Nat → Bool} (hw : WF n adj) (hb : Mb road adj) (hp : p < n) : Ok (M_measureFrom (nI p) (nI n) road w0) (fun w => (∀ q, q < 32 → w (32 * p + q) = wy (dN adj n p q)) ∧ ∀ j, (j < 32 * p ∨ 32 * p + 32 ≤ j) → w j = w0 j) := by
  have hn := hw.1
  -- the x loop
  have lx : ∀ (i q : Nat), i < n → q < n → ∀ (k48 : Int32 → Int32 → Int32 → (Nat → Int32) → Option (Nat → Int32)) (Po : (Nat → Int32) → Prop), (∀ w, mI adj n p i w0 (fun z => ∃ x, x < q + 1 ∧ dN adj n p x = i ∧ adj x z = true) w → Ok (k48 (nI p) (nI i) (nI q + 1) w) Po) → ∀ w, mI adj n p i w0 (fun z => ∃ x, x < q ∧ dN adj n p x = i ∧ adj x z = true) w → Ok (M_measureFrom_l59 k48 (nI n) road FUEL (nI p) (nI i) (nI q) 0 w) Po := by
    intro i q hi hq k48 Po hk w hI
    refine loop_ok (fun F (s : Int32 × (Nat → Int32)) => M_measureFrom_l59 k48 (nI n) road F (nI p) (nI i) (nI q) s.1 s.2) (fun y s => s.1 = nI y ∧ mI adj n p i w0 (fun z => (∃ x, x < q ∧ dN adj n p x = i ∧ adj x z = true) ∨ (dN adj n p q = i ∧ adj q z = true ∧ z < y)) s.2) n (fuel_big (by omega)) ?_ ?_ 0 (Nat.zero_le _) (0, w) ⟨rfl, mI_congr hI (fun z _ _ => ⟨Or.inl, fun h => h.elim id (fun h => absurd h.2.2 (Nat.not_lt_zero z))⟩)⟩
    · rintro y hy ⟨s1, w⟩ ⟨e1, hI⟩ F ih
      obtain rfl : s1 = nI y := e1
      show Ok (M_measureFrom_l59 k48 (nI n) road (F + 1) (nI p) (nI i) (nI q) (nI y) w) _
      rw [M_measureFrom_l59_s]
      unfold M_measureFrom_n59 M_measureFrom_n136 M_measureFrom_n130
      rw [i32, i32, i32]
      refine ok_f (nI_ge hy (by omega)) (ok_g (inb_nI (by omega) (by omega)) ?_)
      rw [cl_nI (by omega), cl_nI (by omega), cl_nI (by omega)]
      refine ok_i (fun c => ?_) (fun c => ?_)
      · have hdq := (mI_is hI (by omega) (by omega)).mp c
        refine ok_g (inb_nI (by omega) (by omega)) ?_
        rw [hb q (by omega) y (by omega)]
        cases ha : adj q y
        · refine ok_t (by decide) (ih (nI y + 1, w) ⟨nI_1 y, mI_congr hI (fun z hz _ => ?_)⟩)
          refine or_congr_right ⟨fun h => ⟨h.1, h.2.1, by omega⟩, fun h => ⟨h.1, h.2.1, ?_⟩⟩
          rcases Nat.lt_or_ge z y with g | g
          · exact g
          · have : z = y := by omega
            subst this
            rw [ha] at h
            exact absurd h.2.1 (by decide)
        · refine ok_f (by decide) (ok_g (inb_nI (by omega) (by omega)) (ok_i (fun c2 => ?_) (fun c2 => ?_)))
          · have hnone := (mI_none hI (by omega) (by omega)).mp c2
            refine ih (nI y + 1, upd w (32 * p + y) (nI i + 1)) ⟨nI_1 y, fun z hz => ?_, fun j hj => ?_⟩
            · show (_ → upd w (32 * p + y) (nI i + 1) (32 * p + z) = _) ∧ (_ → _ → upd w (32 * p + y) (nI i + 1) (32 * p + z) = _) ∧ (_ → _ → upd w (32 * p + y) (nI i + 1) (32 * p + z) = _)
              by_cases e : z = y
              · subst e
                rw [updS, nI_1]
                exact ⟨fun h => absurd h hnone.1, fun _ _ => rfl, fun _ h => absurd (Or.inr ⟨hdq, ha, by omega⟩) h⟩
              · rw [updN (by omega)]
                refine ⟨(hI.1 z hz).1, fun c3 h => (hI.1 z hz).2.1 c3 (h.imp id (fun h => ⟨h.1, h.2.1, by omega⟩)), fun c3 h => (hI.1 z hz).2.2 c3 (fun h2 => h (h2.imp id (fun h => ⟨h.1, h.2.1, by omega⟩)))⟩
            · show upd w (32 * p + y) (nI i + 1) j = w0 j
              rw [updN (by omega)]
              exact hI.2 j hj
          · refine ih (nI y + 1, w) ⟨nI_1 y, mI_congr hI (fun z hz c3 => ?_)⟩
            refine ⟨fun h => h.imp id (fun h => ⟨h.1, h.2.1, by omega⟩), fun h => ?_⟩
            rcases h with h | h
            · exact Or.inl h
            · by_cases e : z = y
              · subst e
                rcases Classical.em ((∃ x, x < q ∧ dN adj n p x = i ∧ adj x z = true) ∨ (dN adj n p q = i ∧ adj q z = true ∧ z < z)) with g | g
                · exact g
                · exact absurd ((mI_none hI (by omega) (by omega)).mpr ⟨c3, g⟩) c2
              · exact Or.inr ⟨h.1, h.2.1, by omega⟩
      · have hdq : dN adj n p q ≠ i := fun e => c ((mI_is hI (by omega) (by omega)).mpr e)
        refine hk w (mI_congr hI (fun z _ _ => ?_))
        constructor
        · rintro (⟨x, hx, h1, h2⟩ | h)
          · exact ⟨x, by omega, h1, h2⟩
          · exact absurd h.1 hdq
        · rintro ⟨x, hx, h1, h2⟩
          by_cases e : x = q
          · subst e; exact absurd h1 hdq
          · exact Or.inl ⟨x, by omega, h1, h2⟩
    · rintro ⟨s1, w⟩ ⟨e1, hI⟩ F
      obtain rfl : s1 = nI n := e1
      show Ok (M_measureFrom_l59 k48 (nI n) road (F + 1) (nI p) (nI i) (nI q) (nI n) w) _
      rw [M_measureFrom_l59_s]
      unfold M_measureFrom_n59 M_measureFrom_n136
      refine ok_t (nI_le (Nat.le_refl n) (by omega)) (hk w (mI_congr hI (fun z _ _ => ?_)))
      constructor
      · rintro (⟨x, hx, h1, h2⟩ | h)
        · exact ⟨x, by omega, h1, h2⟩
        · exact ⟨q, by omega, h.1, h.2.1⟩
      · rintro ⟨x, hx, h1, h2⟩
        by_cases e : x = q
        · subst e; exact Or.inr ⟨h1, h2, (hw.2.2.2 x z h2).2⟩
        · exact Or.inl ⟨x, by omega, h1, h2⟩
  -- the q loop
  have lq : ∀ (i : Nat), i < n → ∀ (k38 : Int32 → Int32 → (Nat → Int32) → Option (Nat → Int32)) (Po : (Nat → Int32) → Prop), (∀ w, mI adj n p (i + 1) w0 (fun _ => False) w → Ok (k38 (nI p) (nI i + 1) w) Po) → ∀ w, mI adj n p i w0 (fun _ => False) w → Ok (M_measureFrom_l48 k38 (nI n) road FUEL (nI p) (nI i) 0 w) Po := by
    intro i hi k38 Po hk w hI
    refine loop_ok (fun F (s : Int32 × (Nat → Int32)) => M_measureFrom_l48 k38 (nI n) road F (nI p) (nI i) s.1 s.2) (fun q s => s.1 = nI q ∧ mI adj n p i w0 (fun z => ∃ x, x < q ∧ dN adj n p x = i ∧ adj x z = true) s.2) n (fuel_big (by omega)) ?_ ?_ 0 (Nat.zero_le _) (0, w) ⟨rfl, mI_congr hI (fun z _ _ => ⟨False.elim, fun ⟨x, hx, _⟩ => absurd hx (Nat.not_lt_zero x)⟩)⟩
    · rintro q hq ⟨s1, w⟩ ⟨e1, hI⟩ F ih
      obtain rfl : s1 = nI q := e1
      show Ok (M_measureFrom_l48 k38 (nI n) road (F + 1) (nI p) (nI i) (nI q) w) _
      rw [M_measureFrom_l48_s]
      unfold M_measureFrom_n48
      refine ok_f (nI_ge hq (by omega)) (lx i q hi hq _ _ (fun w h => ih (nI q + 1, w) ⟨nI_1 q, h⟩) w hI)
    · rintro ⟨s1, w⟩ ⟨e1, hI⟩ F
      obtain rfl : s1 = nI n := e1
      show Ok (M_measureFrom_l48 k38 (nI n) road (F + 1) (nI p) (nI i) (nI n) w) _
      rw [M_measureFrom_l48_s]
      unfold M_measureFrom_n48 M_measureFrom_n142
      refine ok_t (nI_le (Nat.le_refl n) (by omega)) (hk w ⟨fun z hz => ⟨fun c => ?_, fun _ h => h.elim, fun c _ => ?_⟩, hI.2⟩)
      · by_cases e : dN adj n p z ≤ i
        · exact (hI.1 z hz).1 e
        · have e2 : dN adj n p z = i + 1 := by omega
          rw [e2]
          exact (hI.1 z hz).2.1 e ((dN_next hw (by omega)).mp e2).2
      · refine (hI.1 z hz).2.2 (by omega) (fun h => ?_)
        have := (dN_next (p := p) (q := z) hw (k := i) (by omega)).mpr ⟨by omega, h⟩
        omega
  -- the passes
  have lw : ∀ w, mI adj n p 0 w0 (fun _ => False) w → Ok (M_measureFrom_l38 (nI n) road FUEL (nI p) 0 w) (fun w => (∀ q, q < 32 → w (32 * p + q) = wy (dN adj n p q)) ∧ ∀ j, (j < 32 * p ∨ 32 * p + 32 ≤ j) → w j = w0 j) := by
    intro w hI
    refine loop_ok (fun F (s : Int32 × (Nat → Int32)) => M_measureFrom_l38 (nI n) road F (nI p) s.1 s.2) (fun i s => s.1 = nI i ∧ mI adj n p i w0 (fun _ => False) s.2) n (fuel_big (by omega)) ?_ ?_ 0 (Nat.zero_le _) (0, w) ⟨rfl, hI⟩
    · rintro i hi ⟨s1, w⟩ ⟨e1, hI⟩ F ih
      obtain rfl : s1 = nI i := e1
      show Ok (M_measureFrom_l38 (nI n) road (F + 1) (nI p) (nI i) w) _
      rw [M_measureFrom_l38_s]
      unfold M_measureFrom_n38
      exact ok_f (nI_ge hi (by omega)) (lq i hi _ _ (fun w h => ih (nI i + 1, w) ⟨nI_1 i, h⟩) w hI)
    · rintro ⟨s1, w⟩ ⟨e1, hI⟩ F
      obtain rfl : s1 = nI n := e1
      show Ok (M_measureFrom_l38 (nI n) road (F + 1) (nI p) (nI n) w) _
      rw [M_measureFrom_l38_s]
      unfold M_measureFrom_n38 M_measureFrom_n148
      refine ok_t (nI_le (Nat.le_refl n) (by omega)) (ok_s ⟨fun q hq => ?_, hI.2⟩)
      unfold wy
      by_cases c : dN adj n p q < 33
      · rw [if_pos c]
        exact (hI.1 q hq).1 (Nat.le_of_lt (dN_bound hw hp c))
      · rw [if_neg c]
        exact (hI.1 q hq).2.2 (by omega) (fun h => h)
  -- the beginning
  unfold M_measureFrom
  refine loop_ok (fun F (s : Int32 × (Nat → Int32)) => M_measureFrom_l2 (nI n) road F (nI p) s.1 s.2) (fun i s => s.1 = nI i ∧ (∀ q, q < i → s.2 (32 * p + q) = if q = p then 0 else 99) ∧ ∀ j, (j < 32 * p ∨ 32 * p + 32 ≤ j) → s.2 j = w0 j) 32 (fuel_big (by omega)) ?_ ?_ 0 (Nat.zero_le _) (0, w0) ⟨rfl, fun q hq => absurd hq (Nat.not_lt_zero q), fun _ _ => rfl⟩
  · rintro i hi ⟨s1, w⟩ ⟨e1, e2, e3⟩ F ih
    obtain rfl : s1 = nI i := e1
    show Ok (M_measureFrom_l2 (nI n) road (F + 1) (nI p) (nI i) w) _
    rw [M_measureFrom_l2_s]
    unfold M_measureFrom_n2 M_measureFrom_n29
    rw [i32]
    have fin : ∀ v : Int32, v = (if i = p then 0 else 99) → Ok (M_measureFrom_l2 (nI n) road F (nI p) (nI i + 1) (upd w (32 * p + i) v)) _ := fun v hv => ih (nI i + 1, upd w (32 * p + i) v) ⟨nI_1 i, fun q hq => by
      show upd w (32 * p + i) v (32 * p + q) = _
      by_cases e : q = i
      · subst e; rw [updS, hv]
      · rw [updN (by omega)]; exact e2 q (by omega), fun j hj => by
      show upd w (32 * p + i) v j = w0 j
      rw [updN (by omega)]; exact e3 j hj⟩
    refine ok_f (nI_ge hi (by decide)) (ok_i (fun c => ok_g (inb_nI (by omega) (by omega)) ?_) (fun c => ok_g (inb_nI (by omega) (by omega)) ?_))
    · rw [cl_nI (by omega)]
      exact fin 0 (by rw [if_pos ((nI_eq (by omega) (by omega)).mp c)])
    · rw [cl_nI (by omega)]
      exact fin 99 (by rw [if_neg ((nI_ne (by omega) (by omega)).mp c)])
  · rintro ⟨s1, w⟩ ⟨e1, e2, e3⟩ F
    obtain rfl : s1 = nI 32 := e1
    show Ok (M_measureFrom_l2 (nI n) road (F + 1) (nI p) (nI 32) w) _
    rw [M_measureFrom_l2_s]
    unfold M_measureFrom_n2 M_measureFrom_n36
    have e2 : ∀ q, q < 32 → w (32 * p + q) = if q = p then 0 else 99 := e2
    refine ok_t (by decide) (lw w ⟨fun z hz => ⟨fun c => ?_, fun _ h => h.elim, fun c _ => ?_⟩, e3⟩)
    · have e : p = z := dN_zero.mp (Nat.le_zero.mp c)
      rw [e2 z hz, if_pos e.symm, Nat.le_zero.mp c]; rfl
    · rw [e2 z hz, if_neg (fun e => c (by rw [e, dN_self]; exact Nat.le_refl 0))]
