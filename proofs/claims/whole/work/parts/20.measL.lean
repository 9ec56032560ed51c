/-! the class's ways: masks of posts -/
theorem Net_around_s {n : Nat} {x : Int32} {near : Nat → Int32} {adj : Nat → Nat → Bool} (hw : WF n adj) (hb : Lb near adj) : Ok (Net_around x (nI n) near) (fun r => ∀ q, q < 32 → (bt r q = true ↔ ∃ p, p < n ∧ bt x p = true ∧ adj p q = true)) := by
  have hn := hw.1
  unfold Net_around
  refine loop_ok (fun F (s : Int32 × Int32) => Net_around_l4 (nI n) near F x s.1 s.2) (fun i s => s.2 = nI i ∧ ∀ q, q < 32 → (bt s.1 q = true ↔ ∃ p, p < i ∧ bt x p = true ∧ adj p q = true)) n (fuel_big (by omega)) ?_ ?_ 0 (Nat.zero_le _) (0, 0) ⟨rfl, fun q _ => ⟨fun h => absurd h (by rw [b_0]; decide), fun ⟨p, hp, _⟩ => absurd hp (Nat.not_lt_zero p)⟩⟩
  · rintro i hi ⟨s1, s2⟩ ⟨e1, e2⟩ F ih
    obtain rfl : s2 = nI i := e1
    have e2 : ∀ q, q < 32 → (bt s1 q = true ↔ ∃ p, p < i ∧ bt x p = true ∧ adj p q = true) := e2
    show Ok (Net_around_l4 (nI n) near (F + 1) x s1 (nI i)) _
    rw [Net_around_l4_s]
    unfold Net_around_n4 Net_around_n29
    refine ok_f (nI_ge hi (by omega)) (ok_e (LN_isIn_s x (by omega)) ?_)
    cases hx : bt x i
    · refine ok_t (by decide) (ih (s1, nI i + 1) ⟨nI_1 i, fun q hq => ?_⟩)
      rw [e2 q hq]
      constructor
      · rintro ⟨p, hp, h⟩; exact ⟨p, by omega, h⟩
      · rintro ⟨p, hp, h1, h2⟩
        by_cases e : p = i
        · subst e; rw [hx] at h1; cases h1
        · exact ⟨p, by omega, h1, h2⟩
    · refine ok_f (by decide) (ok_g (inb_nI (by omega) (by omega)) (ih (s1 ||| near (nI i).toNatClampNeg, nI i + 1) ⟨nI_1 i, fun q hq => ?_⟩))
      show bt (s1 ||| near (nI i).toNatClampNeg) q = true ↔ _
      rw [cl_nI (by omega), b_or, Bool.or_eq_true, e2 q hq, hb i (by omega) q hq]
      constructor
      · rintro (⟨p, hp, h⟩ | h)
        · exact ⟨p, by omega, h⟩
        · exact ⟨i, by omega, hx, h⟩
      · rintro ⟨p, hp, h1, h2⟩
        by_cases e : p = i
        · subst e; exact Or.inr h2
        · exact Or.inl ⟨p, by omega, h1, h2⟩
  · rintro ⟨s1, s2⟩ ⟨e1, e2⟩ F
    obtain rfl : s2 = nI n := e1
    show Ok (Net_around_l4 (nI n) near (F + 1) x s1 (nI n)) _
    rw [Net_around_l4_s]
    unfold Net_around_n4 Net_around_n35
    exact ok_t (nI_le (Nat.le_refl n) (by omega)) (ok_s e2)
theorem Wy_noteSteps_s {n p i : Nat} {x : Int32} {st : Nat → Int32} (hn : n ≤ 32) (hp : p < 32) : Ok (Wy_noteSteps (nI p) x (nI i) (nI n) st) (fun w => ∀ j, w j = if 32 * p ≤ j ∧ j < 32 * p + n ∧ bt x (j - 32 * p) = true then nI i else st j) := by
  unfold Wy_noteSteps
  refine loop_ok (fun F (s : Int32 × (Nat → Int32)) => Wy_noteSteps_l3 (nI n) F (nI p) x (nI i) s.1 s.2) (fun k s => s.1 = nI k ∧ ∀ j, s.2 j = if 32 * p ≤ j ∧ j < 32 * p + k ∧ bt x (j - 32 * p) = true then nI i else st j) n (fuel_big (by omega)) ?_ ?_ 0 (Nat.zero_le _) (0, st) ⟨rfl, fun j => by rw [if_neg (by omega)]⟩
  · rintro k hk ⟨s1, s2⟩ ⟨e1, e2⟩ F ih
    obtain rfl : s1 = nI k := e1
    have e2 : ∀ j, s2 j = if 32 * p ≤ j ∧ j < 32 * p + k ∧ bt x (j - 32 * p) = true then nI i else st j := e2
    show Ok (Wy_noteSteps_l3 (nI n) (F + 1) (nI p) x (nI i) (nI k) s2) _
    rw [Wy_noteSteps_l3_s]
    unfold Wy_noteSteps_n3 Wy_noteSteps_n34
    rw [i32']
    refine ok_f (nI_ge hk (by omega)) (ok_e (LN_isIn_s x (by omega)) ?_)
    cases hx : bt x k
    · refine ok_t (by decide) (ih (nI k + 1, s2) ⟨nI_1 k, fun j => ?_⟩)
      show s2 j = _
      rw [e2 j]
      by_cases e : j = 32 * p + k
      · subst e
        rw [if_neg (by omega), if_neg (by rw [show 32 * p + k - 32 * p = k by omega, hx]; simp)]
      · by_cases c : 32 * p ≤ j ∧ j < 32 * p + k ∧ bt x (j - 32 * p) = true
        · rw [if_pos c, if_pos ⟨c.1, by omega, c.2.2⟩]
        · rw [if_neg c, if_neg (fun c2 => c ⟨c2.1, by omega, c2.2.2⟩)]
    · refine ok_f (by decide) (ok_g (inb_nI (by omega) (by omega)) (ih (nI k + 1, upd s2 (nI (32 * p + k)).toNatClampNeg (nI i)) ⟨nI_1 k, fun j => ?_⟩))
      show upd s2 (nI (32 * p + k)).toNatClampNeg (nI i) j = _
      rw [cl_nI (by omega)]
      by_cases e : j = 32 * p + k
      · subst e
        rw [updS, if_pos ⟨by omega, by omega, by rw [show 32 * p + k - 32 * p = k by omega]; exact hx⟩]
      · rw [updN e, e2 j]
        by_cases c : 32 * p ≤ j ∧ j < 32 * p + k ∧ bt x (j - 32 * p) = true
        · rw [if_pos c, if_pos ⟨c.1, by omega, c.2.2⟩]
        · rw [if_neg c, if_neg (fun c2 => c ⟨c2.1, by omega, c2.2.2⟩)]
  · rintro ⟨s1, s2⟩ ⟨e1, e2⟩ F
    obtain rfl : s1 = nI n := e1
    show Ok (Wy_noteSteps_l3 (nI n) (F + 1) (nI p) x (nI i) (nI n) s2) _
    rw [Wy_noteSteps_l3_s]
    unfold Wy_noteSteps_n3 Wy_noteSteps_n40
    exact ok_t (nI_le (Nat.le_refl n) (by omega)) (ok_s e2)
/-- the mask of the posts at way i -/
def lyB (adj : Nat → Nat → Bool) (n p i : Nat) (x : Int32) : Prop := ∀ q, q < 32 → (bt x q = true ↔ dN adj n p q = i)
theorem bt_ne {x : Int32} : x = 0 ↔ ∀ q, q < 32 → bt x q = false := ⟨fun h q _ => by rw [h, b_0], fun h => b_ext (fun q hq => by rw [h q hq, b_0])⟩
theorem bt_iff {a b : Bool} (h : a = true ↔ b = true) : a = b := by cases a <;> cases b <;> simp_all
theorem spread_none {adj : Nat → Nat → Bool} {n p i : Nat} (hw : WF n adj) (hp : p < n) (hi : i ≤ 32) (h : ∀ q, q < 32 → ¬ dN adj n p q = i) {q : Nat} (hd : dN adj n p q < 33) : dN adj n p q < i := by
  rcases Nat.lt_or_ge (dN adj n p q) i with c | c
  · exact c
  · obtain ⟨f, hf⟩ := dN_chain (dN adj n p q) q hd (dN_lt hw hp hd) rfl
    have h1 := hf i c
    have h2 := hw.1
    exact absurd h1.2 (h (f i) (by omega))
/-- one post's ways: rows of steps and layers, what is reached, the greatest way -/
theorem Wy_spread_s {n p : Nat} {near ly re st : Nat → Int32} {adj : Nat → Nat → Bool} (hw : WF n adj) (hb : Lb near adj) (hp : p < n) (h0 : ∀ j, j < 32 → ly (32 * p + j) = 0) (h1 : ∀ q, q < 32 → st (32 * p + q) = -1) :
    Ok (Wy_spread (nI p) (nI n) (nI n) ly near re st) (fun z => (∃ e, e < n ∧ z.1 = nI e ∧ (∃ q, q < n ∧ dN adj n p q = e) ∧ ∀ q, dN adj n p q < 33 → dN adj n p q ≤ e) ∧ (∀ j, j < 32 → lyB adj n p j (z.2.1 (32 * p + j))) ∧ (∀ j, (j < 32 * p ∨ 32 * p + 32 ≤ j) → z.2.1 j = ly j) ∧ (∃ m, z.2.2.1 = upd re p m ∧ ∀ q, q < 32 → (bt m q = true ↔ dN adj n p q < 33)) ∧ (∀ q, q < 32 → z.2.2.2 (32 * p + q) = if dN adj n p q < 33 then nI (dN adj n p q) else -1) ∧ (∀ j, (j < 32 * p ∨ 32 * p + 32 ≤ j) → z.2.2.2 j = st j)) := by
  have hn := hw.1
  unfold Wy_spread
  refine loop_ok (fun F (s : Int32 × Int32 × Int32 × Int32 × (Nat → Int32) × (Nat → Int32)) => Wy_spread_l13 (nI n) (nI n) near F (nI p) s.1 s.2.1 s.2.2.1 s.2.2.2.1 s.2.2.2.2.1 re s.2.2.2.2.2) (fun i s => lyB adj n p i s.1 ∧ (∀ q, q < 32 → (bt s.2.1 q = true ↔ dN adj n p q ≤ i)) ∧ s.2.2.1 = nI (i - 1) ∧ s.2.2.2.1 = nI i ∧ (i = 0 ∨ ∃ q, q < n ∧ dN adj n p q = i - 1) ∧ (∀ j, j < 32 → (j < i → lyB adj n p j (s.2.2.2.2.1 (32 * p + j))) ∧ (i ≤ j → s.2.2.2.2.1 (32 * p + j) = 0)) ∧ (∀ j, (j < 32 * p ∨ 32 * p + 32 ≤ j) → s.2.2.2.2.1 j = ly j) ∧ (∀ q, q < 32 → s.2.2.2.2.2 (32 * p + q) = if dN adj n p q < i then nI (dN adj n p q) else -1) ∧ (∀ j, (j < 32 * p ∨ 32 * p + 32 ≤ j) → s.2.2.2.2.2 j = st j)) 32 (fuel_big (by omega)) ?_ ?_ 0 (Nat.zero_le _) ((1 : Int32) <<< (nI p &&& 31), (1 : Int32) <<< (nI p &&& 31), 0, 0, ly, st) ?_
  · rintro i hi ⟨x3, x4, x5, x6, ly2, st2⟩ ⟨a1, a2, a3, a4, a5, a6, a7, a8, a9⟩ F ih
    obtain rfl : x6 = nI i := a4
    have a1 : lyB adj n p i x3 := a1
    have a2 : ∀ q, q < 32 → (bt x4 q = true ↔ dN adj n p q ≤ i) := a2
    have a3 : x5 = nI (i - 1) := a3
    have a6 : ∀ j, j < 32 → (j < i → lyB adj n p j (ly2 (32 * p + j))) ∧ (i ≤ j → ly2 (32 * p + j) = 0) := a6
    have a7 : ∀ j, (j < 32 * p ∨ 32 * p + 32 ≤ j) → ly2 j = ly j := a7
    have a8 : ∀ q, q < 32 → st2 (32 * p + q) = if dN adj n p q < i then nI (dN adj n p q) else -1 := a8
    have a9 : ∀ j, (j < 32 * p ∨ 32 * p + 32 ≤ j) → st2 j = st j := a9
    show Ok (Wy_spread_l13 (nI n) (nI n) near (F + 1) (nI p) x3 x4 x5 (nI i) ly2 re st2) _
    rw [Wy_spread_l13_s]
    unfold Wy_spread_n13
    refine ok_f (nI_ge hi (by decide)) (ok_i (fun c => ?_) (fun c => ?_))
    · have hno : ∀ q, q < 32 → ¬ dN adj n p q = i := fun q hq e => by
        have := (a1 q hq).mpr e
        rw [c, b_0] at this
        cases this
      have hi0 : i ≠ 0 := fun e => hno p (by omega) (by rw [dN_self, e])
      unfold Wy_spread_n72
      refine ok_g (inb_nI (by omega) (by decide)) (ok_s ⟨⟨i - 1, ?_, a3, ?_, fun q hq => ?_⟩, fun j hj => ?_, a7, ⟨x4, by rw [cl_nI (by omega)], fun q hq => ?_⟩, fun q hq => ?_, a9⟩)
      · rcases a5 with e | ⟨q, hq, e⟩
        · exact absurd e hi0
        · have e : dN adj n p q = i - 1 := e
          have := dN_bound hw hp (q := q) (by omega)
          omega
      · rcases a5 with e | h
        · exact absurd e hi0
        · exact h
      · have := spread_none hw hp (by omega) hno hq
        omega
      · show lyB adj n p j (ly2 (32 * p + j))
        rcases Nat.lt_or_ge j i with g | g
        · exact (a6 j hj).1 g
        · rw [(a6 j hj).2 g]
          intro q hq
          rw [b_0]
          refine ⟨fun h => absurd h (by decide), fun h => ?_⟩
          have := spread_none hw hp (by omega) hno (q := q) (by omega)
          omega
      · rw [a2 q hq]
        refine ⟨fun h => by omega, fun h => ?_⟩
        have := spread_none hw hp (by omega) hno h
        omega
      · show st2 (32 * p + q) = _
        rw [a8 q hq]
        by_cases g : dN adj n p q < 33
        · rw [if_pos g, if_pos (spread_none hw hp (by omega) hno g)]
        · rw [if_neg g, if_neg (by omega)]
    · have hex : ∃ q, q < 32 ∧ dN adj n p q = i := by
        rcases Classical.em (∃ q, q < 32 ∧ dN adj n p q = i) with g | g
        · exact g
        · refine absurd (bt_ne.mpr (fun q hq => ?_)) c
          cases hb9 : bt x3 q
          · rfl
          · exact absurd ⟨q, hq, (a1 q hq).mp hb9⟩ g
      obtain ⟨q0, hq0, e0⟩ := hex
      have hin : i < n := by rw [← e0]; exact dN_bound hw hp (by omega)
      rw [i32']
      refine ok_g (inb_nI (by omega) (by omega)) (ok_b (Wy_noteSteps_s hn (by omega)) (fun st3 hs3 => ok_b (Net_around_s hw hb) (fun ar har => ok_l ?_)))
      have nl : lyB adj n p (i + 1) (ar &&& (x4 ^^^ (-1 : Int32))) := by
        intro q hq
        rw [b_and, b_xor, b_m1 q hq, Bool.and_eq_true, har q hq, dN_next hw (by omega)]
        constructor
        · rintro ⟨⟨y, hy, h2, h3⟩, h4⟩
          refine ⟨fun g => ?_, y, hy, (a1 y (by omega)).mp h2, h3⟩
          rw [(a2 q hq).mpr g] at h4
          cases h4
        · rintro ⟨h2, y, hy, h3, h4⟩
          refine ⟨⟨y, hy, (a1 y (by omega)).mpr h3, h4⟩, ?_⟩
          cases g : bt x4 q
          · rfl
          · exact absurd ((a2 q hq).mp g) h2
      refine ih (ar &&& (x4 ^^^ (-1 : Int32)), x4 ||| (ar &&& (x4 ^^^ (-1 : Int32))), nI i, nI i + 1, upd ly2 (nI (32 * p + i)).toNatClampNeg x3, st3) ⟨nl, fun q hq => ?_, rfl, nI_1 i, Or.inr ⟨q0, dN_lt hw hp (by omega), e0⟩, fun j hj => ?_, fun j hj => ?_, fun q hq => ?_, fun j hj => ?_⟩
      · show bt (x4 ||| (ar &&& (x4 ^^^ (-1 : Int32)))) q = true ↔ _
        rw [b_or, Bool.or_eq_true, a2 q hq, nl q hq]
        omega
      · show (j < i + 1 → lyB adj n p j (upd ly2 (nI (32 * p + i)).toNatClampNeg x3 (32 * p + j))) ∧ (i + 1 ≤ j → upd ly2 (nI (32 * p + i)).toNatClampNeg x3 (32 * p + j) = 0)
        rw [cl_nI (by omega)]
        by_cases e : j = i
        · subst e
          rw [updS]
          exact ⟨fun _ => a1, fun g => absurd g (by omega)⟩
        · rw [updN (by omega)]
          exact ⟨fun g => (a6 j hj).1 (by omega), fun g => (a6 j hj).2 (by omega)⟩
      · show upd ly2 (nI (32 * p + i)).toNatClampNeg x3 j = ly j
        rw [cl_nI (by omega), updN (by omega)]
        exact a7 j hj
      · show st3 (32 * p + q) = _
        rw [hs3, show 32 * p + q - 32 * p = q by omega]
        by_cases g : dN adj n p q = i
        · have hqn := dN_lt hw hp (q := q) (by omega)
          rw [if_pos ⟨by omega, by omega, (a1 q hq).mpr g⟩, if_pos (by omega), g]
        · rw [if_neg (fun h => g ((a1 q hq).mp h.2.2)), a8 q hq]
          by_cases g2 : dN adj n p q < i
          · rw [if_pos g2, if_pos (by omega)]
          · rw [if_neg g2, if_neg (by omega)]
      · show st3 j = st j
        rw [hs3, if_neg (by omega)]
        exact a9 j hj
  · rintro ⟨x3, x4, x5, x6, ly2, st2⟩ ⟨a1, a2, a3, a4, a5, a6, a7, a8, a9⟩ F
    obtain rfl : x6 = nI 32 := a4
    have a2 : ∀ q, q < 32 → (bt x4 q = true ↔ dN adj n p q ≤ 32) := a2
    have a3 : x5 = nI (32 - 1) := a3
    have a6 : ∀ j, j < 32 → (j < 32 → lyB adj n p j (ly2 (32 * p + j))) ∧ (32 ≤ j → ly2 (32 * p + j) = 0) := a6
    have a8 : ∀ q, q < 32 → st2 (32 * p + q) = if dN adj n p q < 32 then nI (dN adj n p q) else -1 := a8
    show Ok (Wy_spread_l13 (nI n) (nI n) near (F + 1) (nI p) x3 x4 x5 (nI 32) ly2 re st2) _
    rw [Wy_spread_l13_s]
    unfold Wy_spread_n13 Wy_spread_n72
    have b9 : ∀ q, dN adj n p q < 33 → dN adj n p q < 32 := fun q h => by have := dN_bound hw hp h; omega
    refine ok_t (by decide) (ok_g (inb_nI (by omega) (by decide)) (ok_s ⟨⟨31, ?_, a3, ?_, fun q hq => ?_⟩, fun j hj => (a6 j hj).1 hj, a7, ⟨x4, by rw [cl_nI (by omega)], fun q hq => ?_⟩, fun q hq => ?_, a9⟩))
    · rcases a5 with e | ⟨q, hq, e⟩
      · exact absurd e (by decide)
      · have e : dN adj n p q = 32 - 1 := e
        have := dN_bound hw hp (q := q) (by omega)
        omega
    · rcases a5 with e | h
      · exact absurd e (by decide)
      · exact h
    · have := b9 q hq
      omega
    · rw [a2 q hq]; omega
    · show st2 (32 * p + q) = _
      rw [a8 q hq]
      by_cases g : dN adj n p q < 33
      · rw [if_pos g, if_pos (b9 q g)]
      · rw [if_neg g, if_neg (by omega)]
  · have e1 : ∀ q, q < 32 → (bt ((1 : Int32) <<< (nI p &&& 31)) q = true ↔ dN adj n p q = 0) := by
      intro q hq
      rw [b_one (by omega) hq, decide_eq_true_iff, dN_zero]
      exact eq_comm
    refine ⟨e1, fun q hq => by rw [Nat.le_zero]; exact e1 q hq, rfl, rfl, Or.inl rfl, fun j hj => ⟨fun g => absurd g (Nat.not_lt_zero j), fun _ => h0 j hj⟩, fun _ _ => rfl, fun q hq => ?_, fun _ _ => rfl⟩
    rw [if_neg (Nat.not_lt_zero _)]
    exact h1 q hq
