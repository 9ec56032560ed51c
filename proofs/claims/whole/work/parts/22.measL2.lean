/-! the class's measure -/
theorem LN_allOf_s {n : Nat} (hn : n ≤ 32) : Ok (LN_allOf (nI n)) (fun m => ∀ q, q < 32 → bt m q = decide (q < n)) := by
  unfold LN_allOf LN_allOf_n14
  by_cases h : 0 < n
  · refine ok_t (nI_lt h (by omega)) (ok_s (fun q hq => ?_))
    rw [show (32 : Int32) - nI n = nI (32 - n) from pk_sub (a := 32) hn, b_ushr (32 - n) (by omega)]
    by_cases c : q < n
    · rw [b_m1 _ (by omega), decide_eq_true c]
    · rw [b_big (by omega), decide_eq_false c]
  · have : n = 0 := by omega
    subst this
    refine ok_f (by decide) (ok_s (fun q hq => ?_))
    rw [b_0]; rfl
def wholeB (adj : Nat → Nat → Bool) (n : Nat) : Bool := decide (0 < n ∧ ∀ q, q < n → dN adj n 0 q < 33)
/-- e is the greatest way of the first p rows -/
def LM (adj : Nat → Nat → Bool) (n p e : Nat) : Prop := e ≤ 32 ∧ (∀ a q, a < p → dN adj n a q < 33 → dN adj n a q ≤ e) ∧ (e = 0 ∨ ∃ a q, a < n ∧ q < n ∧ dN adj n a q = e)
def LW (adj : Nat → Nat → Bool) (n : Nat) (far size whole : Int32) (ly re st : Nat → Int32) : Prop :=
  size = nI n ∧ (∀ p, p < n → ∀ j, j < 32 → lyB adj n p j (ly (32 * p + j))) ∧ (∀ p, p < n → ∀ q, q < 32 → st (32 * p + q) = if dN adj n p q < 33 then nI (dN adj n p q) else -1) ∧ (∀ p, p < n → ∀ q, q < 32 → (bt (re p) q = true ↔ dN adj n p q < 33)) ∧ whole = bI (wholeB adj n) ∧ ∃ e, LM adj n n e ∧ far = if wholeB adj n = true then nI e else -1
theorem Wy_measure_s {n : Nat} {near ly re st : Nat → Int32} {a0 b0 c0 d0 : Int32} {adj : Nat → Nat → Bool} (hw : WF n adj) (hb : Lb near adj) : Ok (Wy_measure a0 (nI n) b0 c0 d0 ly near re st) (fun z => z.2.1 = 1 ∧ LW adj n z.1 z.2.2.1 z.2.2.2.1 z.2.2.2.2.1 z.2.2.2.2.2.1 z.2.2.2.2.2.2) := by
  have hn := hw.1
  unfold Wy_measure
  refine ok_e (JA_fillI_s (by decide) (-1) st) (ok_e (JA_fillI_s (by decide) 0 ly) ?_)
  refine loop_ok (fun F (s : Int32 × Int32 × (Nat → Int32) × (Nat → Int32) × (Nat → Int32)) => Wy_measure_l28 (nI n) near F s.1 s.2.1 a0 b0 (nI n) d0 s.2.2.1 s.2.2.2.1 s.2.2.2.2) (fun p s => (∃ e, s.1 = nI e ∧ LM adj n p e) ∧ s.2.1 = nI p ∧ (∀ a, a < p → ∀ j, j < 32 → lyB adj n a j (s.2.2.1 (32 * a + j))) ∧ (∀ j, 32 * p ≤ j → j < 1024 → s.2.2.1 j = 0) ∧ (∀ a, a < p → ∀ q, q < 32 → (bt (s.2.2.2.1 a) q = true ↔ dN adj n a q < 33)) ∧ (∀ a, a < p → ∀ q, q < 32 → s.2.2.2.2 (32 * a + q) = if dN adj n a q < 33 then nI (dN adj n a q) else -1) ∧ (∀ j, 32 * p ≤ j → j < 1024 → s.2.2.2.2 j = -1)) n (fuel_big (by omega)) ?_ ?_ 0 (Nat.zero_le _) (0, 0, fa_fill (fun _ => 0) ly 1024, re, fa_fill (fun _ => -1) st 1024) ⟨⟨0, rfl, by omega, fun a q h => absurd h (Nat.not_lt_zero a), Or.inl rfl⟩, rfl, fun a h => absurd h (Nat.not_lt_zero a), fun j _ h => fa_fill_in (f := fun _ => (0 : Int32)) (g := ly) h, fun a h => absurd h (Nat.not_lt_zero a), fun a h => absurd h (Nat.not_lt_zero a), fun j _ h => fa_fill_in (f := fun _ => (-1 : Int32)) (g := st) h⟩
  · rintro p hp ⟨s1, s2, l2, r2, t2⟩ ⟨⟨e, e1, g1, g2, g3⟩, e2, e3, e4, e5, e6, e7⟩ F ih
    obtain rfl : s1 = nI e := e1
    obtain rfl : s2 = nI p := e2
    have e3 : ∀ a, a < p → ∀ j, j < 32 → lyB adj n a j (l2 (32 * a + j)) := e3
    have e4 : ∀ j, 32 * p ≤ j → j < 1024 → l2 j = 0 := e4
    have e5 : ∀ a, a < p → ∀ q, q < 32 → (bt (r2 a) q = true ↔ dN adj n a q < 33) := e5
    have e6 : ∀ a, a < p → ∀ q, q < 32 → t2 (32 * a + q) = if dN adj n a q < 33 then nI (dN adj n a q) else -1 := e6
    have e7 : ∀ j, 32 * p ≤ j → j < 1024 → t2 j = -1 := e7
    show Ok (Wy_measure_l28 (nI n) near (F + 1) (nI e) (nI p) a0 b0 (nI n) d0 l2 r2 t2) _
    rw [Wy_measure_l28_s]
    unfold Wy_measure_n28
    refine ok_f (nI_ge hp (by omega)) (ok_b (Wy_spread_s hw hb hp (fun j hj => e4 _ (by omega) (by omega)) (fun q hq => e7 _ (by omega) (by omega))) ?_)
    rintro ⟨z1, l3, r3, t3⟩ ⟨⟨e9, h1, h2, h3, h4⟩, h5, h6, ⟨m, h7, h8⟩, h9, h10⟩
    obtain rfl : z1 = nI e9 := h2
    obtain rfl : r3 = upd r2 p m := h7
    have h5 : ∀ j, j < 32 → lyB adj n p j (l3 (32 * p + j)) := h5
    have h6 : ∀ j, (j < 32 * p ∨ 32 * p + 32 ≤ j) → l3 j = l2 j := h6
    have h9 : ∀ q, q < 32 → t3 (32 * p + q) = if dN adj n p q < 33 then nI (dN adj n p q) else -1 := h9
    have h10 : ∀ j, (j < 32 * p ∨ 32 * p + 32 ≤ j) → t3 j = t2 j := h10
    refine ok_l ?_
    refine ih (if nI e < nI e9 then nI e9 else nI e, nI p + 1, l3, upd r2 p m, t3) ⟨?_, nI_1 p, fun a ha j hj => ?_, fun j h1 h2 => ?_, fun a ha q hq => ?_, fun a ha q hq => ?_, fun j h1 h2 => ?_⟩
    · by_cases c : e < e9
      · refine ⟨e9, if_pos (nI_lt c (by omega)), by omega, fun a q ha hd => ?_, Or.inr ?_⟩
        · by_cases k : a = p
          · subst k; exact h4 q hd
          · have := g2 a q (by omega) hd
            omega
        · obtain ⟨q, hq, hd⟩ := h3
          exact ⟨p, q, hp, hq, hd⟩
      · refine ⟨e, if_neg (nI_nlt (by omega) (by omega)), g1, fun a q ha hd => ?_, g3⟩
        by_cases k : a = p
        · subst k
          have := h4 q hd
          omega
        · exact g2 a q (by omega) hd
    · show lyB adj n a j (l3 (32 * a + j))
      by_cases k : a = p
      · subst k; exact h5 j hj
      · rw [h6 _ (by omega)]; exact e3 a (by omega) j hj
    · show l3 j = 0
      rw [h6 _ (by omega)]; exact e4 j (by omega) h2
    · show bt (upd r2 p m a) q = true ↔ _
      by_cases k : a = p
      · subst k; rw [updS]; exact h8 q hq
      · rw [updN k]; exact e5 a (by omega) q hq
    · show t3 (32 * a + q) = _
      by_cases k : a = p
      · subst k; exact h9 q hq
      · rw [h10 _ (by omega)]; exact e6 a (by omega) q hq
    · show t3 j = -1
      rw [h10 _ (by omega)]; exact e7 j (by omega) h2
  · rintro ⟨s1, s2, l2, r2, t2⟩ ⟨⟨e, e1, hLM⟩, e2, e3, e4, e5, e6, e7⟩ F
    obtain rfl : s1 = nI e := e1
    obtain rfl : s2 = nI n := e2
    have e5 : ∀ a, a < n → ∀ q, q < 32 → (bt (r2 a) q = true ↔ dN adj n a q < 33) := e5
    show Ok (Wy_measure_l28 (nI n) near (F + 1) (nI e) (nI n) a0 b0 (nI n) d0 l2 r2 t2) _
    rw [Wy_measure_l28_s]
    unfold Wy_measure_n28
    refine ok_t (nI_le (Nat.le_refl n) (by omega)) ?_
    have fin : ∀ v : Bool, v = wholeB adj n → Ok (Wy_measure_n82 (nI e) (bI v) a0 b0 (nI n) d0 l2 r2 t2) (fun z => z.2.1 = 1 ∧ LW adj n z.1 z.2.2.1 z.2.2.2.1 z.2.2.2.2.1 z.2.2.2.2.2.1 z.2.2.2.2.2.2) := by
      intro v hv
      unfold Wy_measure_n82 Wy_measure_n98
      refine ok_g (isb_bI v) ?_
      cases v
      · exact ok_t (by decide) (ok_s ⟨rfl, rfl, e3, e6, e5, by rw [← hv], e, hLM, by rw [← hv, if_neg (by decide)]⟩)
      · exact ok_f (by decide) (ok_s ⟨rfl, rfl, e3, e6, e5, by rw [← hv], e, hLM, by rw [← hv, if_pos rfl]⟩)
    unfold Wy_measure_n53 Wy_measure_n81
    by_cases h0 : n = 0
    · refine ok_t (by rw [h0]; decide) (fin false (Eq.symm (decide_eq_false (fun h => by omega))))
    · refine ok_f (nI_nle (by omega) (by omega)) (ok_b (LN_allOf_s hn) (fun m hm => ok_i (fun c => ?_) (fun c => ?_)))
      · refine fin true (Eq.symm (decide_eq_true ⟨by omega, fun q hq => ?_⟩))
        have c : r2 0 = m := c
        rw [← e5 0 (by omega) q (by omega), c, hm q (by omega), decide_eq_true hq]
      · refine fin false (Eq.symm (decide_eq_false (fun h => c (b_ext (fun q hq => ?_)))))
        show bt (r2 0) q = bt m q
        rw [hm q hq]
        apply bt_iff
        rw [e5 0 (by omega) q hq, decide_eq_true_iff]
        exact ⟨fun g => dN_lt hw (by omega) g, fun g => h.2 q g⟩
theorem LN_measure_c {n : Nat} {near ly re st : Nat → Int32} {a0 b0 c0 d0 : Int32} {adj : Nat → Nat → Bool} (hw : WF n adj) (hb : Lb near adj) (hc : b0 = 0 ∨ (b0 = 1 ∧ LW adj n a0 c0 d0 ly re st)) : Ok (LN_measure (nI n) a0 b0 c0 d0 near ly re st) (fun z => z.2.1 = 1 ∧ LW adj n z.1 z.2.2.1 z.2.2.2.1 z.2.2.2.2.1 z.2.2.2.2.2.1 z.2.2.2.2.2.2) := by
  unfold LN_measure LN_measure_n21
  rcases hc with rfl | ⟨rfl, h⟩
  · exact ok_t rfl (ok_b (Wy_measure_s hw hb) (fun z hz => ok_s hz))
  · exact ok_f (by decide) (ok_s ⟨rfl, h⟩)
