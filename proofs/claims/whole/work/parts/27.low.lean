/-! the lowest bit -/
def low (x : Int32) : Nat := fa_first (bt x) 32
theorem low_no {x : Int32} {k : Nat} (h : k < low x) : bt x k = false := fa_first_no (bt x) 32 k h
theorem low_yes {x : Int32} (h : low x < 32) : bt x (low x) = true := fa_first_yes (bt x) 32 h
theorem low_le (x : Int32) : low x ≤ 32 := fa_first_le _ _
theorem bt_negAnd (x : Int32) {i : Nat} (hi : i < 32) : bt (x &&& (-x)) i = decide (i = low x) := by
  have hneg : bt (-x) i = (bt x i ^^ decide (∃ j, j < i ∧ bt x j = true)) := by
    unfold bt
    rw [Int32.toBitVec_neg, BitVec.getLsbD_neg]
    simp [hi]
  rw [b_and, hneg]
  apply bt_iff
  rw [decide_eq_true_iff]
  constructor
  · intro h
    rw [Bool.and_eq_true] at h
    obtain ⟨h1, h2⟩ := h
    rw [h1] at h2
    have h3 : ¬ ∃ j, j < i ∧ bt x j = true := by
      intro g
      rw [decide_eq_true g] at h2
      cases h2
    rcases Nat.lt_or_ge i (low x) with g | g
    · rw [low_no g] at h1; cases h1
    · rcases Nat.lt_or_ge (low x) i with g2 | g2
      · exact absurd ⟨low x, g2, low_yes (by omega)⟩ h3
      · omega
  · intro e
    have h1 : bt x i = true := by rw [e]; exact low_yes (by omega)
    rw [h1, decide_eq_false (fun ⟨j, hj, hb⟩ => by rw [low_no (by omega)] at hb; cases hb)]
    rfl
theorem LN_lowestBit_s (x : Int32) : LN_lowestBit x = some (nI (low x)) := by
  unfold LN_lowestBit
  rw [bnd_at (JI_bitCount_s _)]
  refine congrArg (fun k => some (nI k)) ?_
  by_cases h : low x < 32
  · have e : nN (x &&& (-x)) = 2 ^ low x := by
      apply Nat.eq_of_testBit_eq
      intro i
      rw [Nat.testBit_two_pow]
      rcases Nat.lt_or_ge i 32 with g | g
      · rw [← bt_nN, bt_negAnd x g]
        apply bt_iff
        rw [decide_eq_true_iff, decide_eq_true_iff]
        exact eq_comm
      · rw [← bt_nN, b_big g, decide_eq_false (by omega)]
    have e1 : nN ((x &&& (-x)) - 1) = 2 ^ low x - 1 := by
      have hp : 1 ≤ 2 ^ low x := Nat.one_le_two_pow
      rw [nN_sub (by rw [e]; exact hp), e]; rfl
    unfold cnt
    rw [fb_ct_cong (q := fun i => decide (i < low x)) (fun i hi => by rw [bt_nN, e1, Nat.testBit_two_pow_sub_one])]
    rw [ct_ext (n := low x) (m := 32) (by omega) (fun k hk => decide_eq_false (by omega))]
    exact fb_ct_all.mpr (fun k hk => decide_eq_true hk)
  · have hl := low_le x
    have e32 : low x = 32 := by omega
    have e : x &&& (-x) = 0 := b_ext (fun i hi => by rw [bt_negAnd x hi, b_0, decide_eq_false (by omega)])
    rw [e, e32]
    decide +kernel
