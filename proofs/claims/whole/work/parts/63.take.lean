
/-! take -/
section TAKE
variable {n : Nat} {adj : Nat → Nat → Bool}
def takeP (adj : Nat → Nat → Bool) (n : Nat) : Prop := likeB adj n = true ∧ (1 ≤ farN adj n ∧ farN adj n ≤ 5) ∧ ∀ i, i < farN adj n + 1 → tbB adj n i ≤ 20 ∧ tbC adj n i ≤ 20
noncomputable def tkB (adj : Nat → Nat → Bool) (n i : Nat) : Nat := if i < farN adj n then tbB adj n i else 0
noncomputable def tkC (adj : Nat → Nat → Bool) (n i : Nat) : Nat := if 1 ≤ i ∧ i ≤ farN adj n then tbC adj n i else 0
theorem tk_TT (h : takeP adj n) : TT (farN adj n) (tkB adj n) (tkC adj n) := by
  obtain ⟨_, h1, h2⟩ := h
  refine ⟨h1, fun i hi => ⟨?_, ?_⟩, fun i a _ => ?_, ?_, fun i a _ => ?_⟩
  · unfold tkB
    by_cases e : i < farN adj n
    · rw [if_pos e]; exact (h2 i (by omega)).1
    · rw [if_neg e]; omega
  · unfold tkC
    by_cases e : 1 ≤ i ∧ i ≤ farN adj n
    · rw [if_pos e]; exact (h2 i (by omega)).2
    · rw [if_neg e]; omega
  · unfold tkB; rw [if_neg (by omega)]
  · unfold tkC; rw [if_neg (by omega)]
  · unfold tkC; rw [if_neg (by omega)]
theorem tb_le (hw : WF n adj) (i : Nat) : tbB adj n i ≤ 32 ∧ tbC adj n i ≤ 32 := by
  have hn := hw.1
  refine ⟨Nat.le_trans (bsN_le _ _ _ _ _) hn, Nat.le_trans (triC_le _ _ _ _) hn⟩
theorem tb_0 (hw : WF n adj) (hL : LM adj n n (farN adj n)) (h0 : 0 < n) : tbC adj n 0 = 0 := by
  unfold tbC triC
  rw [if_pos (prN_is hw hL h0 (Nat.zero_le _)).2.2]
theorem tb_far (hw : WF n adj) (hwh : wholeB adj n = true) (hL : LM adj n n (farN adj n)) : tbB adj n (farN adj n) = 0 := by
  obtain ⟨h0, hd⟩ := whole_all hw hwh
  obtain ⟨a, b, e⟩ := prN_is hw hL h0 (Nat.le_refl _)
  unfold tbB triB
  rw [e]
  rcases Nat.eq_zero_or_pos (bsN adj n (prN adj n (farN adj n)).1 (prN adj n (farN adj n)).2 (farN adj n + 1)) with h | h
  · exact h
  · obtain ⟨x, hx, _, hx2⟩ := bsN_pos.mp h
    have := hL.2.1 _ x a (hd _ x a hx)
    omega
theorem Lk_isAtMost_s {b c : Nat → Int32} (hw : WF n adj) (hf : farN adj n ≤ 5) (hr : ∀ i, i < farN adj n + 1 → b i = nI (tbB adj n i) ∧ c i = nI (tbC adj n i)) : Ok (Lk_isAtMost (nI (farN adj n)) 20 b c) (fun z => ((∀ i, i < farN adj n + 1 → tbB adj n i ≤ 20 ∧ tbC adj n i ≤ 20) → z = 1) ∧ (¬ (∀ i, i < farN adj n + 1 → tbB adj n i ≤ 20 ∧ tbC adj n i ≤ 20) → z = 0)) := by
  unfold Lk_isAtMost
  refine fr1 (fun F x => Lk_isAtMost_l2 b c F (nI (farN adj n)) 20 x) (fun i x => x = nI i ∧ ∀ j, j < i → tbB adj n j ≤ 20 ∧ tbC adj n j ≤ 20) (farN adj n + 1) (fuel_big (by omega)) ?_ ?_ 0 (Nat.zero_le _) 0 ⟨rfl, all_none⟩
  · rintro i hi x ⟨rfl, h⟩ F ih
    have l := tb_le hw i
    rw [Lk_isAtMost_l2_s]
    unfold Lk_isAtMost_n2 Lk_isAtMost_n27
    rw [cl_nI (by omega), (hr i hi).1, (hr i hi).2]
    refine ok_f (nI_nlt (a := farN adj n) (b := i) (by omega) (by omega)) (ok_g (inb_nI (by omega) (by omega)) (ok_i (fun q => ok_s ⟨fun h => ?_, fun _ => rfl⟩) (fun q => ok_i (fun q2 => ih _ ⟨nI_1 i, all_next.mpr ⟨h, ?_, ?_⟩⟩) (fun q2 => ok_s ⟨fun h => ?_, fun _ => rfl⟩))))
    · have := (nI_ltI (a := 20) (by decide) (by omega)).mp q
      have := (h i hi).1
      omega
    · exact Nat.le_of_not_lt (fun h => q ((nI_ltI (a := 20) (by decide) (by omega)).mpr h))
    · exact (nI_leI (b := 20) (by omega) (by decide)).mp q2
    · exact absurd ((nI_leI (b := 20) (by omega) (by decide)).mpr (h i hi).2) q2
  · rintro x ⟨rfl, h⟩ F
    rw [Lk_isAtMost_l2_s]
    unfold Lk_isAtMost_n2 Lk_isAtMost_n35
    exact ok_t (nI_lt (by omega) (by omega)) (ok_s ⟨fun _ => rfl, fun h2 => absurd h h2⟩)
theorem LN_take_s {near a b c ly re st tb tc : Nat → Int32} {cf ct ho lr f rd sz wh jd ln : Int32} (hw : WF n adj) (hb : Lb near adj) (hc : LNC adj n cf ct ho lr f rd sz wh a b c ly re st) : Ok (LN_take cf ct ho lr (nI n) jd ln f rd sz wh a b c near tb tc ly re st) (fun z => ((takeP adj n → z.1 = nI (farN adj n) ∧ z.2.2.2.2.2.1 = 0 ∧ z.2.2.2.2.2.2.1 = nI (farN adj n) ∧ TB z.2.2.2.2.2.2.2.2.2.2.2.2.2.2.1 (tkB adj n) ∧ TB z.2.2.2.2.2.2.2.2.2.2.2.2.2.2.2.1 (tkC adj n)) ∧ (¬ takeP adj n → z.1 = -5 ∧ z.2.2.2.2.2.1 = jd ∧ z.2.2.2.2.2.2.1 = ln ∧ z.2.2.2.2.2.2.2.2.2.2.2.2.2.2.1 = tb ∧ z.2.2.2.2.2.2.2.2.2.2.2.2.2.2.2.1 = tc)) ∧ LNC adj n z.2.1 z.2.2.1 z.2.2.2.1 z.2.2.2.2.1 z.2.2.2.2.2.2.2.1 z.2.2.2.2.2.2.2.2.1 z.2.2.2.2.2.2.2.2.2.1 z.2.2.2.2.2.2.2.2.2.2.1 z.2.2.2.2.2.2.2.2.2.2.2.1 z.2.2.2.2.2.2.2.2.2.2.2.2.1 z.2.2.2.2.2.2.2.2.2.2.2.2.2.1 z.2.2.2.2.2.2.2.2.2.2.2.2.2.2.2.2.1 z.2.2.2.2.2.2.2.2.2.2.2.2.2.2.2.2.2.1 z.2.2.2.2.2.2.2.2.2.2.2.2.2.2.2.2.2.2) := by
  have hn := hw.1
  unfold LN_take LN_take_n48
  refine ok_b (LN_isLike_s hw hb hc) (fun y hy => ?_)
  have hC := LNR_C hy.2
  refine ok_i (fun g => ok_s ⟨⟨fun h => ?_, fun _ => ⟨rfl, rfl, rfl, rfl, rfl⟩⟩, hC⟩) (fun g => ?_)
  · rw [hy.1, bI_eq0, h.1] at g
    exact absurd g (by decide)
  have hlk : likeB adj n = true := by rw [hy.1] at g; exact not_t g
  have hwh := (like_t.mp hlk).1
  have h0 := (whole_all hw hwh).1
  have hf := LW_far hw hy.2.2.2.2
  have hLM := LW_le hw hy.2.2.2.2
  have h32 := hLM.1
  rw [if_pos hwh] at hf
  have hLK := hy.2.2.2.1
  obtain ⟨y1, y2, y3, y4, y5, y6, y7, y8, y9, y10, y11, y12, y13, y14, y15⟩ := y
  have hf : y6 = nI (farN adj n) := hf
  subst hf
  have hC : LNC adj n y2 y3 y4 y5 (nI (farN adj n)) y7 y8 y9 y10 y11 y12 y13 y14 y15 := hC
  have hrow : ∀ i, i < farN adj n + 1 → y11 i = nI (tbB adj n i) ∧ y12 i = nI (tbC adj n i) := fun i hi => by
    have := LK_row hw hLM h0 (i := i) (by omega) hLK hlk
    exact ⟨this.2.2, this.1⟩
  show Ok (if nI (farN adj n) < 1 then _ else _) _
  refine ok_i (fun g2 => ok_s ⟨⟨fun h => ?_, fun _ => ⟨rfl, rfl, rfl, rfl, rfl⟩⟩, hC⟩) (fun g2 => ?_)
  · have := (nI_ltI (b := 1) (by omega) (by decide)).mp g2
    have := h.2.1
    omega
  have hf1 : 1 ≤ farN adj n := Nat.le_of_not_lt (fun h => g2 ((nI_ltI (b := 1) (by omega) (by decide)).mpr h))
  refine ok_i (fun g3 => ok_s ⟨⟨fun h => ?_, fun _ => ⟨rfl, rfl, rfl, rfl, rfl⟩⟩, hC⟩) (fun g3 => ?_)
  · have := (nI_ltI (a := 5) (by decide) (by omega)).mp g3
    have := h.2.1
    omega
  have hf5 : farN adj n ≤ 5 := Nat.le_of_not_lt (fun h => g3 ((nI_ltI (a := 5) (by decide) (by omega)).mpr h))
  refine ok_b (Lk_isAtMost_s hw hf5 hrow) (fun v hv => ok_i (fun g4 => ok_s ⟨⟨fun h => ?_, fun _ => ⟨rfl, rfl, rfl, rfl, rfl⟩⟩, hC⟩) (fun g4 => ?_))
  · exact absurd h.2.2 ((z01 hv).1 g4)
  have htk : takeP adj n := ⟨hlk, ⟨hf1, hf5⟩, (z01 hv).2 g4⟩
  refine ok_b (Td_lay_s hf1 hf5) (fun w hw5 => ?_)
  obtain ⟨w1, w2, w3, w4⟩ := w
  obtain ⟨e1, e2, e3, e4⟩ := hw5
  have f3 : TB w3 (t0b (farN adj n)) := e3
  have f4 : TB w4 (t0c (farN adj n)) := e4
  have e1 : w1 = 0 := e1
  have e2 : w2 = nI (farN adj n) := e2
  subst e1
  subst e2
  refine fr4 (fun F x jd tb tc => LN_take_l67 F x y2 y3 y4 y5 jd (nI (farN adj n)) (nI (farN adj n)) y7 y8 y9 y10 y11 y12 tb tc y13 y14 y15) (fun i x jd tb tc => x = nI i ∧ jd = 0 ∧ TB tb (fun j => if j < i then tbB adj n j else t0b (farN adj n) j) ∧ TB tc (fun j => if 1 ≤ j ∧ j ≤ i then tbC adj n j else t0c (farN adj n) j)) (farN adj n) (fuel_big (by omega)) ?_ ?_ 0 (Nat.zero_le _) 0 0 w3 w4 ⟨rfl, rfl, fun j hj => ?_, fun j hj => ?_⟩
  · rintro i hi x jd' tb' tc' ⟨rfl, rfl, t1, t2⟩ F ih
    rw [LN_take_l67_s]
    unfold LN_take_n67 Td_putOnward Td_putBackward
    rw [nI_1, cl_nI (by omega), cl_nI (by omega), (hrow i (by omega)).1, (hrow (i + 1) (by omega)).2]
    refine ok_f (nI_ge hi (by omega)) (ok_g (inb_nI (by omega) (by omega)) (ok_b (ok_g (inb_nI (by omega) (by omega)) (ok_s (P := fun q => q = (1, 0, upd tb' i (nI (tbB adj n i)))) rfl)) (fun q hq => ?_)))
    subst hq
    refine ok_g (inb_nI (by omega) (by omega)) (ok_b (ok_g (inb_nI (by omega) (by omega)) (ok_s (P := fun q => q = (1, 0, upd tc' (i + 1) (nI (tbC adj n (i + 1))))) rfl)) (fun q hq => ?_))
    subst hq
    refine ih _ _ _ _ ⟨rfl, rfl, fun j hj => ?_, fun j hj => ?_⟩
    · show upd tb' i (nI (tbB adj n i)) j = nI (if j < i + 1 then tbB adj n j else t0b (farN adj n) j)
      by_cases c : j = i
      · rw [c, updS, if_pos (by omega)]
      · rw [updN c, t1 j hj]
        show nI (if j < i then _ else _) = _
        by_cases c2 : j < i
        · rw [if_pos c2, if_pos (by omega)]
        · rw [if_neg c2, if_neg (by omega)]
    · show upd tc' (i + 1) (nI (tbC adj n (i + 1))) j = nI (if 1 ≤ j ∧ j ≤ i + 1 then tbC adj n j else t0c (farN adj n) j)
      by_cases c : j = i + 1
      · rw [c, updS, if_pos (by omega)]
      · rw [updN c, t2 j hj]
        show nI (if 1 ≤ j ∧ j ≤ i then _ else _) = _
        by_cases c2 : 1 ≤ j ∧ j ≤ i
        · rw [if_pos c2, if_pos (by omega)]
        · rw [if_neg c2, if_neg (by omega)]
  · rintro x jd' tb' tc' ⟨rfl, rfl, t1, t2⟩ F
    rw [LN_take_l67_s]
    unfold LN_take_n67 LN_take_n124
    refine ok_t (nI_le (Nat.le_refl _) (by omega)) (ok_s ⟨⟨fun _ => ⟨rfl, rfl, rfl, fun j hj => ?_, fun j hj => ?_⟩, fun h => absurd htk h⟩, hC⟩)
    · show tb' j = _
      rw [t1 j hj]
      unfold tkB
      show nI (if j < farN adj n then _ else _) = _
      by_cases c : j < farN adj n
      · rw [if_pos c, if_pos c]
      · rw [if_neg c, if_neg c]; unfold t0b; rw [if_neg c]
    · show tc' j = _
      rw [t2 j hj]
      unfold tkC
      show nI (if 1 ≤ j ∧ j ≤ farN adj n then _ else _) = _
      by_cases c : 1 ≤ j ∧ j ≤ farN adj n
      · rw [if_pos c, if_pos c]
      · rw [if_neg c, if_neg c]; unfold t0c; rw [if_neg c]
  · rw [f3 j hj]
    show _ = nI (if j < 0 then _ else _)
    rw [if_neg (by omega)]
  · rw [f4 j hj]
    show _ = nI (if 1 ≤ j ∧ j ≤ 0 then _ else _)
    rw [if_neg (by omega)]
theorem M_take_bad {cp cq f g im ln : Int32} {it ta tb tc b c w : Nat → Int32} : M_take_l30 FUEL 0 0 cp cq f g im ln it ta tb tc b c w = some (-5, cp, cq, f, g, im, ln, it, ta, tb, tc, b, c, w) := by
  refine ok_eq ?_
  refine fr1 (fun F x => M_take_l30 F 0 x cp cq f g im ln it ta tb tc b c w) (fun i x => x = 0) 0 (fuel_big (by omega)) (fun i hi => by omega) ?_ 0 (Nat.zero_le _) 0 rfl
  rintro x rfl F
  rw [M_take_l30_s]
  unfold M_take_n30 M_take_n76
  exact ok_i (fun _ => ok_t rfl (ok_s rfl)) (fun _ => ok_t rfl (ok_t rfl (ok_s rfl)))
theorem M_take_s {it road ta tb tc w0 b c : Nat → Int32} {cp cq f0 g0 im ln : Int32} (hw : WF n adj) (hb : Mb road adj) (hc : MC adj n f0 g0 im w0) : Ok (M_take cp cq f0 g0 im ln (nI n) it road ta tb tc b c w0) (fun z => ((takeP adj n → z.1 = nI (farN adj n) ∧ z.2.2.2.2.2.2.1 = nI (farN adj n) ∧ TB z.2.2.2.2.2.2.2.2.2.2.2.1 (tkB adj n) ∧ TB z.2.2.2.2.2.2.2.2.2.2.2.2.1 (tkC adj n)) ∧ (¬ takeP adj n → z.1 = -5 ∧ z.2.2.2.2.2.2.1 = ln ∧ z.2.2.2.2.2.2.2.2.2.2.2.1 = b ∧ z.2.2.2.2.2.2.2.2.2.2.2.2.1 = c)) ∧ MC adj n z.2.2.2.1 z.2.2.2.2.1 z.2.2.2.2.2.1 z.2.2.2.2.2.2.2.2.2.2.2.2.2) := by
  have hn := hw.1
  unfold M_take M_take_n26 M_take_n27
  refine ok_b (M_isLike_s hw hb hc) (fun y hy => ?_)
  have hC : MC adj n y.2.2.2.1 y.2.2.2.2.1 y.2.2.2.2.2.1 y.2.2.2.2.2.2.2.2.2.2 := Or.inr hy.2
  refine ok_i (fun g => ok_of M_take_bad ⟨⟨fun h => ?_, fun _ => ⟨rfl, rfl, rfl, rfl⟩⟩, hC⟩) (fun g => ?_)
  · rw [hy.1.1, bI_eq0, h.1] at g
    exact absurd g (by decide)
  have hlk : likeB adj n = true := by rw [hy.1.1] at g; exact not_t g
  have hwh := (like_t.mp hlk).1
  have h0 := (whole_all hw hwh).1
  have hf := MW_far hw hwh hy.2.2
  obtain ⟨F, eF, hF⟩ := hy.2.2.2.1
  have hLM := FM_LM hw hwh hF
  rw [← farN_eq hw hLM] at hLM
  have h32 := hLM.1
  have hLK := hy.1
  obtain ⟨y1, y2, y3, y4, y5, y6, y7, y8, y9, y10, y11⟩ := y
  have hf : y4 = nI (farN adj n) := hf
  subst hf
  have hC : MC adj n (nI (farN adj n)) y5 y6 y11 := hC
  have hrow : ∀ i, i < farN adj n + 1 → y9 i = nI (tbB adj n i) ∧ y10 i = nI (tbC adj n i) := fun i hi => by
    have := LK_row hw hLM h0 (i := i) (by omega) hLK hlk
    exact ⟨this.2.2, this.1⟩
  show Ok (bnd (M_in (nI (farN adj n)).toInt64 1 5) _) _
  refine ok_e (r15 _) (ok_i (fun g2 => ok_of M_take_bad ⟨⟨fun h => ?_, fun _ => ⟨rfl, rfl, rfl, rfl⟩⟩, hC⟩) (fun g2 => ?_))
  · refine absurd ?_ (of_decide_eq_false (bI_eq0.mp g2))
    exact ⟨(nI_leI (a := 1) (by decide) (by omega)).mpr h.2.1.1, (nI_leI (b := 5) (by omega) (by decide)).mpr h.2.1.2⟩
  have g2 := of_decide_eq_true (not_t g2)
  have hf1 : 1 ≤ farN adj n := (nI_leI (a := 1) (by decide) (by omega)).mp g2.1
  have hf5 : farN adj n ≤ 5 := (nI_leI (b := 5) (by omega) (by decide)).mp g2.2
  refine fr2 (fun F x1 x2 => M_take_l30 F x1 x2 y2 y3 (nI (farN adj n)) y5 y6 ln y7 y8 y9 y10 b c y11) (fun i x1 x2 => x2 = nI i ∧ ∃ t : Bool, x1 = bI t ∧ (t = true ↔ ∀ j, j < i → tbB adj n j ≤ 20 ∧ tbC adj n j ≤ 20)) (farN adj n + 1) (fuel_big (by omega)) ?_ ?_ 0 (Nat.zero_le _) 1 0 ⟨rfl, true, rfl, fun _ => all_none, fun _ => rfl⟩
  · rintro i hi x1 x2 ⟨rfl, t, rfl, ht⟩ F2 ih
    have l := tb_le hw i
    rw [M_take_l30_s]
    unfold M_take_n30 M_take_n76 M_take_n68 M_take_n69
    rw [cl_nI (by omega), (hrow i hi).1, (hrow i hi).2]
    refine ok_f (nI_nlt (a := farN adj n) (b := i) (by omega) (by omega)) (ok_i (fun q => ok_t q (ok_s ⟨⟨fun h => ?_, fun _ => ⟨rfl, rfl, rfl, rfl⟩⟩, hC⟩)) (fun q => ok_g (inb_nI (by omega) (by omega)) (ok_i (fun q2 => ih _ _ ⟨nI_1 i, false, rfl, fun h => absurd h (by decide), fun h => ?_⟩) (fun q2 => ok_i (fun q3 => ih _ _ ⟨nI_1 i, false, rfl, fun h => absurd h (by decide), fun h => ?_⟩) (fun q3 => ih _ _ ⟨nI_1 i, true, rfl, fun _ => all_next.mpr ⟨ht.mp (not_t q), ?_, ?_⟩, fun _ => rfl⟩)))))
    · have := ht.mpr (fun j hj => h.2.2 j (by omega))
      rw [bI_eq0.mp q] at this
      exact absurd this (by decide)
    · have := (nI_ltI (a := 20) (by decide) (by omega)).mp q2
      have := (all_next.mp h).2
      omega
    · have := (nI_ltI (a := 20) (by decide) (by omega)).mp q3
      have := (all_next.mp h).2
      omega
    · exact Nat.le_of_not_lt (fun h => q2 ((nI_ltI (a := 20) (by decide) (by omega)).mpr h))
    · exact Nat.le_of_not_lt (fun h => q3 ((nI_ltI (a := 20) (by decide) (by omega)).mpr h))
  · rintro x1 x2 ⟨rfl, t, rfl, ht⟩ F2
    rw [M_take_l30_s]
    unfold M_take_n30 M_take_n76
    refine ok_t (nI_lt (by omega) (by omega)) (ok_i (fun q => ok_s ⟨⟨fun h => ?_, fun _ => ⟨rfl, rfl, rfl, rfl⟩⟩, hC⟩) (fun q => ?_))
    · have := ht.mpr h.2.2
      rw [bI_eq0.mp q] at this
      exact absurd this (by decide)
    have htk : takeP adj n := ⟨hlk, ⟨hf1, hf5⟩, ht.mp (not_t q)⟩
    unfold M_tell
    refine ok_b (R := fun z => z.1 = 1 ∧ z.2.1 = nI (farN adj n) ∧ TB z.2.2.1 (t0b (farN adj n)) ∧ TB z.2.2.2 (t0c (farN adj n))) (ok_e (r15 _) (ok_f (by rw [decide_eq_true g2]; decide) (M_tellL hf1 hf5))) (fun v hv => ?_)
    obtain ⟨v1, v2, v3, v4⟩ := v
    obtain ⟨_, e2, e3, e4⟩ := hv
    have f3 : TB v3 (t0b (farN adj n)) := e3
    have f4 : TB v4 (t0c (farN adj n)) := e4
    have e2 : v2 = nI (farN adj n) := e2
    subst e2
    refine fr3 (fun F x tb tc => M_take_l94 F x y2 y3 (nI (farN adj n)) y5 y6 (nI (farN adj n)) y7 y8 y9 y10 tb tc y11) (fun i x tb tc => x = nI i ∧ TB tb (fun j => if j < i then tbB adj n j else t0b (farN adj n) j) ∧ TB tc (fun j => if j < i then tbC adj n j else t0c (farN adj n) j)) (farN adj n + 1) (fuel_big (by omega)) ?_ ?_ 0 (Nat.zero_le _) 0 v3 v4 ⟨rfl, fun j hj => ?_, fun j hj => ?_⟩
    · rintro i hi x tb' tc' ⟨rfl, t1, t2⟩ F3 ih
      rw [M_take_l94_s]
      unfold M_take_n94
      rw [cl_nI (by omega), (hrow i hi).1, (hrow i hi).2]
      refine ok_f (nI_nlt (a := farN adj n) (b := i) (by omega) (by omega)) (ok_g (inb_nI (by omega) (by omega)) (ok_g (inb_nI (by omega) (by omega)) (ih _ _ _ ⟨nI_1 i, fun j hj => ?_, fun j hj => ?_⟩)))
      · show upd tb' i (nI (tbB adj n i)) j = nI (if j < i + 1 then tbB adj n j else t0b (farN adj n) j)
        by_cases c : j = i
        · rw [c, updS, if_pos (by omega)]
        · rw [updN c, t1 j hj]
          show nI (if j < i then _ else _) = _
          by_cases c2 : j < i
          · rw [if_pos c2, if_pos (by omega)]
          · rw [if_neg c2, if_neg (by omega)]
      · show upd tc' i (nI (tbC adj n i)) j = nI (if j < i + 1 then tbC adj n j else t0c (farN adj n) j)
        by_cases c : j = i
        · rw [c, updS, if_pos (by omega)]
        · rw [updN c, t2 j hj]
          show nI (if j < i then _ else _) = _
          by_cases c2 : j < i
          · rw [if_pos c2, if_pos (by omega)]
          · rw [if_neg c2, if_neg (by omega)]
    · rintro x tb' tc' ⟨rfl, t1, t2⟩ F3
      rw [M_take_l94_s]
      unfold M_take_n94 M_take_n132
      refine ok_t (nI_lt (by omega) (by omega)) (ok_s ⟨⟨fun _ => ⟨rfl, rfl, fun j hj => ?_, fun j hj => ?_⟩, fun h => absurd htk h⟩, hC⟩)
      · show tb' j = _
        rw [t1 j hj]
        unfold tkB
        show nI (if j < farN adj n + 1 then _ else _) = _
        by_cases c : j < farN adj n
        · rw [if_pos c, if_pos (by omega)]
        · rw [if_neg c]
          by_cases c2 : j = farN adj n
          · rw [c2, if_pos (by omega), tb_far hw hwh hLM]
          · rw [if_neg (by omega)]; unfold t0b; rw [if_neg c]
      · show tc' j = _
        rw [t2 j hj]
        unfold tkC
        show nI (if j < farN adj n + 1 then _ else _) = _
        by_cases c : 1 ≤ j ∧ j ≤ farN adj n
        · rw [if_pos c, if_pos (by omega)]
        · rw [if_neg c]
          by_cases c2 : j = 0
          · rw [c2, if_pos (by omega), tb_0 hw hLM h0]
          · rw [if_neg (by omega)]; unfold t0c; rw [if_neg c]
    · rw [f3 j hj]
      show _ = nI (if j < 0 then _ else _)
      rw [if_neg (by omega)]
    · rw [f4 j hj]
      show _ = nI (if j < 0 then _ else _)
      rw [if_neg (by omega)]
end TAKE
