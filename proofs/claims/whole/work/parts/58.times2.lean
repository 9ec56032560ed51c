
/-! the class's times; is it a root -/
theorem dv {a b a' b' : Int} (hb : 0 < b) (hb' : 0 < b') (h : a * b' = a' * b) : (a % b = 0 ↔ a' % b' = 0) ∧ (a % b = 0 → a / b = a' / b') := by
  have one : ∀ {a b a' b' : Int}, 0 < b → 0 < b' → a * b' = a' * b → a % b = 0 → a' % b' = 0 ∧ a / b = a' / b' := by
    intro a b a' b' hb hb' h h2
    obtain ⟨q, rfl⟩ := Int.dvd_of_emod_eq_zero h2
    have e : a' = b' * q := by
      refine Int.eq_of_mul_eq_mul_left (a := b) (by omega) ?_
      rw [Int.mul_comm b a', ← h]
      grind
    rw [e]
    exact ⟨Int.mul_emod_right b' q, by rw [Int.mul_ediv_cancel_left _ (by omega), Int.mul_ediv_cancel_left _ (by omega)]⟩
  exact ⟨⟨fun h2 => (one hb hb' h h2).1, fun h2 => (one hb' hb h.symm h2).1⟩, fun h2 => (one hb hb' h h2).2⟩
section TIMES2
variable {d : Nat} {be ga : Nat → Nat} {r : Int} {b c : Nat → Int32}
theorem Td_timesOfScaled_s {u : Nat → Int64} (hT : TT d be ga) (hb : TB b be) (hc : TB c ga) (h1 : L1 d be ga) (h4 : L4 d be ga) (h6 : L6 d be ga) (hr : ∀ j, j < d + 1 → RO d be ga j) (h0 : uZ be ga r (d + 1) = 0) (hu : ∀ j, j < d + 2 → u j = lZ (uZ be ga r j)) : Td_timesOfScaled (nI d) (lN (tN be ga d)) b c u = some (tmI be ga d r) := by
  have hd := hT.1
  have wg : ∀ i, i < d → (wZ be d i : Int) * gZ ga d i = (be i * ga (i + 1) : Nat) * ((wZ be d (i + 1) : Int) * gZ ga d (i + 1)) := by
    intro i hi
    rw [wZ_s be hi, gZ_s ga hi, Int.natCast_mul, Int.natCast_mul, Int.natCast_mul]
    grind
  have wr : ∀ i, 0 < (wZ be d i : Int) * gZ ga d i ∧ (wZ be d i : Int) * gZ ga d i ≤ 10240000000000 := by
    intro i
    have a := wZ_pos h1 i
    have b := gZ_pos h1 i
    have c := Nat.mul_le_mul (wZ_le hT i) (gZ_le hT i)
    have e := Nat.mul_pos a b
    have f : (wZ be d i : Int) * gZ ga d i = ((wZ be d i * gZ ga d i : Nat) : Int) := by rw [Int.natCast_mul]
    rw [f]
    omega
  have bc : ∀ i, i < d → be i * ga (i + 1) ≤ 400 ∧ 1 ≤ be i * ga (i + 1) := by
    intro i hi
    exact ⟨Nat.mul_le_mul (hT.2.1 i (by omega)).1 (hT.2.1 (i + 1) (by omega)).2, Nat.mul_pos (h1.2 i hi).1 (h1.2 i hi).2⟩
  have second : Ok (Td_timesOfScaled_l45 (nI d) (lN (tN be ga d)) b c u FUEL (lZ ((wZ be d 0 : Int) * gZ ga d 0)) (lZ ((wZ be d 0 : Int) * gZ ga d 0)) (lZ ((wZ be d 0 : Int) * gZ ga d 0)) 1) (fun z => z = tmI be ga d r) := by
    refine fr3 (fun F x3 x5 x7 => Td_timesOfScaled_l45 (nI d) (lN (tN be ga d)) b c u F (lZ ((wZ be d 0 : Int) * gZ ga d 0)) x3 x5 x7) (fun i x3 x5 x7 => x7 = nI (i + 1) ∧ x3 = lZ ((wZ be d i : Int) * gZ ga d i) ∧ x5 = lZ (fb_si (smF be ga d r) (i + 1))) d (fuel_big (by omega)) ?_ ?_ 0 (Nat.zero_le _) _ _ 1 ⟨rfl, rfl, ?_⟩
    · rintro i hi x3 x5 x7 ⟨rfl, rfl, rfl⟩ F ih
      have a := bc i hi
      have w := wr i
      rw [Td_timesOfScaled_l45_s]
      unfold Td_timesOfScaled_n45
      rw [nI_pred, cl_nI (by omega), cl_nI (by omega), hb i (by omega), hc (i + 1) (by omega), nI_mulN, hu (i + 1) (by omega)]
      refine ok_f (nI_nlt (a := d) (b := i + 1) (by omega) (by omega)) (ok_g (inb_nI (by omega) (by omega)) (ok_g (inb_nI (by omega) (by omega)) (ok_l (ok_f (nI_ne0 (by omega) (by omega)) (ok_g (decide_eq_true ?_) (ok_g (inb_nI (by omega) (by omega)) (ok_l (ih _ _ _ ⟨nI_1 _, ?_, ?_⟩))))))))
      · show ¬ (nI (be i * ga (i + 1))).toInt64 = 0
        rw [n_lZ (by omega)]
        exact lZ_ne (by omega) (by omega)
      · show lZ _ / (nI (be i * ga (i + 1))).toInt64 = _
        rw [n_lZ (by omega), lZ_divZ (by omega) (by omega) (by omega) (by omega), wg i hi, Int.mul_ediv_cancel_left _ (by omega)]
      · show lZ _ + lZ _ * lZ _ * (lZ _ / (nI (be i * ga (i + 1))).toInt64) = _
        rw [n_lZ (by omega), lZ_divZ (by omega) (by omega) (by omega) (by omega), wg i hi, Int.mul_ediv_cancel_left _ (by omega), lZ_mul, lZ_mul, lZ_add]
        rfl
    · rintro x3 x5 x7 ⟨rfl, rfl, rfl⟩ F
      have rb := bw_range hT h1 h4 h6 hr h0
      have ra := ab_range hT h4
      have sb := sm_bw (r := r) h1 h4
      have hw := wZ_pos h1 0
      have hg := gZ_pos h1 0
      have w := wr 0
      have ht := h4.2
      have s1 : 0 < smZ be ga d r := by
        rcases Int.lt_or_le 0 (smZ be ga d r) with h | h
        · exact h
        · have a : smZ be ga d r * wZ be d 0 ≤ 0 := Int.mul_nonpos_of_nonpos_of_nonneg h (by omega)
          have b : 0 < bw be ga d r * gZ ga d 0 := Int.mul_pos (by omega) (by omega)
          omega
      have s2 : smZ be ga d r ≤ (tN be ga d : Int) * ((wZ be d 0 : Int) * gZ ga d 0) := by
        refine Int.le_of_mul_le_mul_right (a := (wZ be d 0 : Int)) ?_ (by omega)
        rw [sb]
        have a := Int.mul_le_mul_of_nonneg_right rb.2 (show (0 : Int) ≤ gZ ga d 0 by omega)
        have e : abN be ga d * (gZ ga d 0 : Int) = (tN be ga d : Int) * ((wZ be d 0 : Int) * gZ ga d 0) * wZ be d 0 := by unfold abN; grind
        rw [← e]
        exact a
      have s3 : (tN be ga d : Int) * ((wZ be d 0 : Int) * gZ ga d 0) ≤ 1024000000000000000 := by
        have := Int.mul_le_mul (a := (tN be ga d : Int)) (b := (wZ be d 0 : Int) * gZ ga d 0) (c := 100000) (d := 10240000000000) (by omega) w.2 (by omega) (by omega)
        omega
      have s4 : 0 ≤ (tN be ga d : Int) * ((wZ be d 0 : Int) * gZ ga d 0) := Int.mul_nonneg (by omega) (by omega)
      have cross : (tN be ga d : Int) * ((wZ be d 0 : Int) * gZ ga d 0) * bw be ga d r = abN be ga d * smZ be ga d r := by
        have e1 : (tN be ga d : Int) * ((wZ be d 0 : Int) * gZ ga d 0) * bw be ga d r = (tN be ga d : Int) * (wZ be d 0 : Int) * (bw be ga d r * gZ ga d 0) := by grind
        rw [e1, ← sb]
        unfold abN
        grind
      have dd := dv s1 (show 0 < bw be ga d r by omega) cross
      rw [Td_timesOfScaled_l45_s]
      unfold Td_timesOfScaled_n45 Td_timesOfScaled_n114 Td_timesOfScaled_n139 Td_timesOfScaled_n149
      rw [lN_lZ, lZ_mul]
      show Ok (if nI d < nI (d + 1) then (if lg_cmp (lZ (smZ be ga d r)) 0 = 0 then some (-1) else gd (nzL (lZ (smZ be ga d r))) (if lg_cmp (lZ ((tN be ga d : Int) * ((wZ be d 0 : Int) * gZ ga d 0)) - lZ ((tN be ga d : Int) * ((wZ be d 0 : Int) * gZ ga d 0)) / lZ (smZ be ga d r) * lZ (smZ be ga d r)) 0 = 0 then some ((lZ ((tN be ga d : Int) * ((wZ be d 0 : Int) * gZ ga d 0)) / lZ (smZ be ga d r)).toInt32) else some (-1))) else _) _
      have nz := lZ_ne s1 (show smZ be ga d r < 9223372036854775808 by omega)
      unfold tmI
      refine ok_t (nI_lt (by omega) (by omega)) (ok_f (fun h => nz ((lg0 _).mp h)) (ok_g (decide_eq_true nz) (ok_i (fun q => ok_s ?_) (fun q => ok_s ?_))))
      · have q := (lZ_remZ (by omega) (by omega) s1 (by omega)).mp q
        rw [if_pos (dd.1.mp q), lZ_divZ (by omega) (by omega) s1 (by omega), dd.2 q]
      · rw [if_neg (fun h => q ((lZ_remZ (by omega) (by omega) s1 (by omega)).mpr (dd.1.mpr h)))]
    · show lZ _ = lZ (0 + 1 * 1 * ((wZ be d 0 : Int) * gZ ga d 0))
      congr 1
      omega
  refine ok_eq ?_
  unfold Td_timesOfScaled
  refine fr2 (fun F x1 x3 => Td_timesOfScaled_l4 (nI d) (lN (tN be ga d)) b c u F x1 x3) (fun i x1 x3 => x3 = nI (i + 1) ∧ ∃ p : Int, x1 = lZ p ∧ p * ((wZ be d i : Int) * gZ ga d i) = (wZ be d 0 : Int) * gZ ga d 0) d (fuel_big (by omega)) ?_ ?_ 0 (Nat.zero_le _) 1 1 ⟨rfl, 1, rfl, Int.one_mul _⟩
  · rintro i hi x1 x3 ⟨rfl, p, rfl, hp⟩ F ih
    have a := bc i hi
    rw [Td_timesOfScaled_l4_s]
    unfold Td_timesOfScaled_n4
    rw [nI_pred, cl_nI (by omega), cl_nI (by omega), hb i (by omega), hc (i + 1) (by omega), nI_mulN, n_lZ (by omega), lZ_mul]
    refine ok_f (nI_nlt (a := d) (b := i + 1) (by omega) (by omega)) (ok_g (inb_nI (by omega) (by omega)) (ok_g (inb_nI (by omega) (by omega)) (ok_l (ih _ _ ⟨nI_1 _, _, rfl, ?_⟩))))
    rw [← hp, wg i hi]
    grind
  · rintro x1 x3 ⟨rfl, p, rfl, hp⟩ F
    rw [wZ_d, gZ_d] at hp
    have hp : p = (wZ be d 0 : Int) * gZ ga d 0 := by rw [← hp]; omega
    rw [hp, Td_timesOfScaled_l4_s]
    unfold Td_timesOfScaled_n4 Td_timesOfScaled_n37
    exact ok_t (nI_lt (by omega) (by omega)) second
end TIMES2
