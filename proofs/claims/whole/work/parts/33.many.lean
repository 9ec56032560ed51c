/-! many, clash, table -/
theorem mnO_ex (S : Nat → Prop) : ∃ r, mnO S r := by
  by_cases h : ∃ g, S g ∧ 0 < g
  · obtain ⟨k, ⟨h1, h2⟩, h3⟩ := pk_least _ h
    refine ⟨k, Or.inr ⟨h2, h1, fun g hg h0 => ?_⟩⟩
    rcases Nat.lt_or_ge g k with c | c
    · exact absurd ⟨hg, h0⟩ (h3 g c)
    · exact c
  · refine ⟨0, Or.inl ⟨rfl, fun g hg => ?_⟩⟩
    rcases Nat.eq_zero_or_pos g with c | c
    · exact c
    · exact absurd ⟨g, hg, c⟩ h
noncomputable def ringN (adj : Nat → Nat → Bool) (n : Nat) : Nat := Classical.choose (mnO_ex (rsS adj n n 0))
theorem ringN_is {adj : Nat → Nat → Bool} {n : Nat} : mnO (rsS adj n n 0) (ringN adj n) := Classical.choose_spec (mnO_ex (rsS adj n n 0))
theorem ringN_a {adj : Nat → Nat → Bool} {n r : Nat} (h : mnO (rsS adj n n 0) r) : r = ringN adj n := mnO_one h ringN_is (fun g a b => ⟨g, a, b, Nat.le_refl g⟩) (fun g a b => ⟨g, a, b, Nat.le_refl g⟩)
theorem ringN_b {adj : Nat → Nat → Bool} {n r : Nat} (hw : WF n adj) (h : mnO (rgS adj n n 0) r) : r = ringN adj n := (round_one hw ringN_is h).symm
noncomputable def spMany (adj : Nat → Nat → Bool) (n : Nat) (x : Int32) : Int32 := if x = 0 then nI n else if x = 1 then nI (roadsN adj n) else if x = 2 then nI (fb_ct (frst adj n) n) else if x = 3 then bI (wholeB adj n) else if x = 4 then (if wholeB adj n = true then nI (farN adj n) else -1) else if x = 5 then nI (ringN adj n) else if x = 6 then bI (evenN adj n) else if x = 7 then bI (sidesB adj n) else if x = 8 then bI (foldedB adj n) else if x = 9 then bI (likeB adj n) else -1
theorem LN_many_s {n : Nat} {x : Int32} {near a b c ly re st : Nat → Int32} {cf ct ho lr f rd sz wh : Int32} {adj : Nat → Nat → Bool} (hw : WF n adj) (hb : Lb near adj) (hc : LNC adj n cf ct ho lr f rd sz wh a b c ly re st) : Ok (LN_many x cf ct ho lr (nI n) f rd sz wh a b c near ly re st) (fun z => z.1 = spMany adj n x ∧ LNC adj n z.2.1 z.2.2.1 z.2.2.2.1 z.2.2.2.2.1 z.2.2.2.2.2.1 z.2.2.2.2.2.2.1 z.2.2.2.2.2.2.2.1 z.2.2.2.2.2.2.2.2.1 z.2.2.2.2.2.2.2.2.2.1 z.2.2.2.2.2.2.2.2.2.2.1 z.2.2.2.2.2.2.2.2.2.2.2.1 z.2.2.2.2.2.2.2.2.2.2.2.2.1 z.2.2.2.2.2.2.2.2.2.2.2.2.2.1 z.2.2.2.2.2.2.2.2.2.2.2.2.2.2) := by
  have hn := hw.1
  unfold LN_many
  refine ok_b (LN_measure_c hw hb hc.1) (fun z hz => ?_)
  have hC : LNC adj n cf ct ho lr z.1 z.2.1 z.2.2.1 z.2.2.2.1 a b c z.2.2.2.2.1 z.2.2.2.2.2.1 z.2.2.2.2.2.2 := ⟨Or.inr hz, hc.2.imp id (fun h => ⟨h.1, hz.1, h.2.2⟩)⟩
  have hL := hz.2
  have hsz : z.2.2.1 = nI n := hL.1
  generalize hv : spMany adj n x = v
  unfold spMany at hv
  by_cases e0 : x = 0
  · rw [if_pos e0] at hv ⊢; exact ok_s ⟨hv, hC⟩
  rw [if_neg e0] at hv ⊢
  by_cases e1 : x = 1
  · rw [if_pos e1] at hv ⊢; exact ok_e (Net_roads_s hw hb) (ok_s ⟨hv, hC⟩)
  rw [if_neg e1] at hv ⊢
  by_cases e2 : x = 2
  · rw [if_pos e2] at hv ⊢
    refine ok_e (by rw [hsz]; exact Wy_pieces_s hn hL.2.2.2.1) (ok_s ⟨hv, hC⟩)
  rw [if_neg e2] at hv ⊢
  by_cases e3 : x = 3
  · rw [if_pos e3] at hv ⊢
    refine ok_e (by rw [hL.2.2.2.2.1]; exact LN_oneIf_s _) (ok_s ⟨hv, hC⟩)
  rw [if_neg e3] at hv ⊢
  by_cases e4 : x = 4
  · rw [if_pos e4] at hv ⊢
    exact ok_s ⟨by rw [← hv]; exact LW_far hw hL, hC⟩
  rw [if_neg e4] at hv ⊢
  by_cases e5 : x = 5
  · rw [if_pos e5] at hv ⊢
    refine ok_b (by rw [hsz]; exact Wy_shortestRing_s hw hb hL) (fun r hr => ok_s ⟨?_, hC⟩)
    obtain ⟨k, h1, _, h2⟩ := hr
    show r = v
    rw [h1, ringN_a h2]; exact hv
  rw [if_neg e5] at hv ⊢
  by_cases e6 : x = 6
  · rw [if_pos e6] at hv ⊢; exact ok_e (Net_isEven_s hw hb) (ok_e (LN_oneIf_s _) (ok_s ⟨hv, hC⟩))
  rw [if_neg e6] at hv ⊢
  by_cases e7 : x = 7
  · rw [if_pos e7] at hv ⊢
    exact ok_e (by rw [hsz]; exact Wy_isOfSides_s hw hb hL) (ok_e (LN_oneIf_s _) (ok_s ⟨hv, hC⟩))
  rw [if_neg e7] at hv ⊢
  by_cases e8 : x = 8
  · rw [if_pos e8] at hv ⊢
    exact ok_e (by rw [hsz]; exact Wy_isFolded_s hw hL) (ok_e (LN_oneIf_s _) (ok_s ⟨hv, hC⟩))
  rw [if_neg e8] at hv ⊢
  by_cases e9 : x = 9
  · rw [if_pos e9] at hv ⊢
    refine ok_b (LN_isLike_s hw hb hC) (fun y hy => ok_e (by rw [hy.1]; exact LN_oneIf_s _) (ok_s ⟨hv, LNR_C hy.2⟩))
  rw [if_neg e9] at hv ⊢
  exact ok_s ⟨hv, hC⟩
theorem M_many_s {n : Nat} {x : Int32} {it la road ta tb tc w0 : Nat → Int32} {cp cq f0 g0 im : Int32} {adj : Nat → Nat → Bool} (hw : WF n adj) (hb : Mb road adj) (hc : MC adj n f0 g0 im w0) : Ok (M_many x cp cq f0 g0 im (nI n) it la road ta tb tc w0) (fun z => z.1 = spMany adj n x ∧ MC adj n z.2.2.2.1 z.2.2.2.2.1 z.2.2.2.2.2.1 z.2.2.2.2.2.2.2.2.2.2.2) := by
  have hn := hw.1
  unfold M_many M_many_n88 M_many_n105 M_many_n123 M_many_n136 M_many_n149 M_many_n162
  refine ok_b (M_measure_c hw hb hc) (fun z hz => ?_)
  have hC : MC adj n z.1 z.2.1 z.2.2.1 z.2.2.2 := Or.inr hz
  have hh : z.2.1 = nI (fb_ct (frst adj n) n) := hz.2.2.2
  have hle := fb_ct_le (frst adj n) n
  have h1 : z.2.1 = 1 ↔ wholeB adj n = true := by
    rw [hh, show (1 : Int32) = nI 1 from rfl, nI_eq (by omega) (by omega), whole_iff hw]
  generalize hv : spMany adj n x = v
  unfold spMany at hv
  by_cases e0 : x = 0
  · rw [if_pos e0] at hv ⊢; exact ok_s ⟨hv, hC⟩
  rw [if_neg e0] at hv ⊢
  by_cases e1 : x = 1
  · rw [if_pos e1] at hv ⊢; exact ok_e (M_roads_s hn hb) (ok_s ⟨hv, hC⟩)
  rw [if_neg e1] at hv ⊢
  by_cases e2 : x = 2
  · rw [if_pos e2] at hv ⊢
    exact ok_s ⟨by rw [← hv]; exact hh, hC⟩
  rw [if_neg e2] at hv ⊢
  by_cases e3 : x = 3
  · rw [if_pos e3] at hv ⊢
    refine ok_i (fun c => ok_s ⟨?_, hC⟩) (fun c => ok_s ⟨?_, hC⟩)
    · rw [← hv, h1.mp c]; rfl
    · cases hwh : wholeB adj n
      · rw [← hv, hwh]; rfl
      · exact absurd (h1.mpr hwh) c
  rw [if_neg e3] at hv ⊢
  by_cases e4 : x = 4
  · rw [if_pos e4] at hv ⊢
    refine ok_i (fun c => ok_s ⟨?_, hC⟩) (fun c => ok_s ⟨?_, hC⟩)
    · rw [← hv, if_pos (h1.mp c)]; exact MW_far hw (h1.mp c) hz.2
    · rw [← hv, if_neg (fun h => c (h1.mpr h))]
  rw [if_neg e4] at hv ⊢
  by_cases e5 : x = 5
  · rw [if_pos e5] at hv ⊢
    refine ok_b (M_round_s hw hb) (fun r hr => ok_s ⟨?_, hC⟩)
    obtain ⟨k, h1, _, h2⟩ := hr
    show r.1 = v
    rw [h1, ringN_b hw h2]; exact hv
  rw [if_neg e5] at hv ⊢
  by_cases e6 : x = 6
  · rw [if_pos e6] at hv ⊢
    refine ok_e (M_isEven_s hn hb) (ok_i (fun c => ok_s ⟨?_, hC⟩) (fun c => ok_s ⟨?_, hC⟩))
    · rw [← hv, c]
    · rw [← hv]; cases h : evenN adj n
      · rw [h] at c; exact absurd rfl c
      · rfl
  rw [if_neg e6] at hv ⊢
  by_cases e7 : x = 7
  · rw [if_pos e7] at hv ⊢
    refine ok_b (M_isOfSides_s hw hb hC) (fun y hy => ok_i (fun c => ok_s ⟨?_, Or.inr hy.2⟩) (fun c => ok_s ⟨?_, Or.inr hy.2⟩))
    · rw [← hv, ← hy.1, c]
    · rw [hy.1] at c; rw [← hv]; cases h : sidesB adj n
      · rw [h] at c; exact absurd rfl c
      · rfl
  rw [if_neg e7] at hv ⊢
  by_cases e8 : x = 8
  · rw [if_pos e8] at hv ⊢
    refine ok_b (M_isFolded_s hw hb hC) (fun y hy => ok_i (fun c => ok_s ⟨?_, Or.inr hy.2⟩) (fun c => ok_s ⟨?_, Or.inr hy.2⟩))
    · rw [← hv, ← hy.1, c]
    · rw [hy.1] at c; rw [← hv]; cases h : foldedB adj n
      · rw [h] at c; exact absurd rfl c
      · rfl
  rw [if_neg e8] at hv ⊢
  by_cases e9 : x = 9
  · rw [if_pos e9] at hv ⊢
    refine ok_b (M_isLike_s hw hb hC) (fun y hy => ok_i (fun c => ok_s ⟨?_, Or.inr hy.2⟩) (fun c => ok_s ⟨?_, Or.inr hy.2⟩))
    · rw [← hv, ← hy.1.1, c]
    · rw [hy.1.1] at c; rw [← hv]; cases h : likeB adj n
      · rw [h] at c; exact absurd rfl c
      · rfl
  rw [if_neg e9] at hv ⊢
  exact ok_s ⟨hv, hC⟩
noncomputable def clN (adj : Nat → Nat → Bool) (n : Nat) : Nat × Nat := Classical.epsilon (fun pq : Nat × Nat => FCl adj n pq.1 pq.2)
theorem clN_is {adj : Nat → Nat → Bool} {n p q : Nat} (h : FCl adj n p q) : clN adj n = (p, q) := by
  have h2 : FCl adj n (clN adj n).1 (clN adj n).2 := Classical.epsilon_spec (p := fun pq : Nat × Nat => FCl adj n pq.1 pq.2) ⟨(p, q), h⟩
  have := FCl_one h2 h
  exact Prod.ext this.1 this.2
noncomputable def spClash (adj : Nat → Nat → Bool) (n : Nat) (x : Int32) : Int32 := if x = 0 ∨ x = 1 then (if wholeB adj n = true then (if likeB adj n = true then -8 else if x = 0 then nI (clN adj n).1 else nI (clN adj n).2) else -5) else -1
theorem LN_clash_s {n : Nat} {x : Int32} {near a b c ly re st : Nat → Int32} {cf ct ho lr f rd sz wh : Int32} {adj : Nat → Nat → Bool} (hw : WF n adj) (hb : Lb near adj) (hc : LNC adj n cf ct ho lr f rd sz wh a b c ly re st) : Ok (LN_clash x cf ct ho lr (nI n) f rd sz wh a b c near ly re st) (fun z => z.1 = spClash adj n x ∧ LNC adj n z.2.1 z.2.2.1 z.2.2.2.1 z.2.2.2.2.1 z.2.2.2.2.2.1 z.2.2.2.2.2.2.1 z.2.2.2.2.2.2.2.1 z.2.2.2.2.2.2.2.2.1 z.2.2.2.2.2.2.2.2.2.1 z.2.2.2.2.2.2.2.2.2.2.1 z.2.2.2.2.2.2.2.2.2.2.2.1 z.2.2.2.2.2.2.2.2.2.2.2.2.1 z.2.2.2.2.2.2.2.2.2.2.2.2.2.1 z.2.2.2.2.2.2.2.2.2.2.2.2.2.2) := by
  have hn := hw.1
  have main : (x = 0 ∨ x = 1) → Ok (LN_clash_n11 (nI n) near x cf ct ho lr f rd sz wh a b c ly re st) (fun z => z.1 = spClash adj n x ∧ LNC adj n z.2.1 z.2.2.1 z.2.2.2.1 z.2.2.2.2.1 z.2.2.2.2.2.1 z.2.2.2.2.2.2.1 z.2.2.2.2.2.2.2.1 z.2.2.2.2.2.2.2.2.1 z.2.2.2.2.2.2.2.2.2.1 z.2.2.2.2.2.2.2.2.2.2.1 z.2.2.2.2.2.2.2.2.2.2.2.1 z.2.2.2.2.2.2.2.2.2.2.2.2.1 z.2.2.2.2.2.2.2.2.2.2.2.2.2.1 z.2.2.2.2.2.2.2.2.2.2.2.2.2.2) := by
    intro hx
    unfold LN_clash_n11 LN_clash_n59
    refine ok_b (LN_measure_c hw hb hc.1) (fun z hz => ?_)
    have hC : LNC adj n cf ct ho lr z.1 z.2.1 z.2.2.1 z.2.2.2.1 a b c z.2.2.2.2.1 z.2.2.2.2.2.1 z.2.2.2.2.2.2 := ⟨Or.inr hz, hc.2.imp id (fun h => ⟨h.1, hz.1, h.2.2⟩)⟩
    have hwb : z.2.2.2.1 = bI (wholeB adj n) := hz.2.2.2.2.2.1
    generalize hv : spClash adj n x = v
    unfold spClash at hv
    rw [if_pos hx] at hv
    refine ok_i (fun g => ok_s ⟨?_, hC⟩) (fun g => ok_b (LN_isLike_s hw hb hC) (fun y hy => ?_))
    · rw [hwb, bI_eq0] at g
      rw [← hv, if_neg (by rw [g]; decide)]
    · have hwh : wholeB adj n = true := by
        cases h : wholeB adj n
        · rw [hwb, h] at g; exact absurd rfl g
        · rfl
      rw [if_pos hwh] at hv
      refine ok_i (fun g2 => ?_) (fun g2 => ok_s ⟨?_, LNR_C hy.2⟩)
      · rw [hy.1, bI_eq0] at g2
        obtain ⟨p, q, hF, e1, e2⟩ := hy.2.2.2.1.2.1 hwh g2
        rw [if_neg (by rw [g2]; decide), clN_is hF] at hv
        refine ok_i (fun g3 => ok_s ⟨?_, LNR_C hy.2⟩) (fun g3 => ok_s ⟨?_, LNR_C hy.2⟩)
        · rw [if_pos g3] at hv; rw [← hv]; exact e1
        · rw [if_neg g3] at hv; rw [← hv]; exact e2
      · have hlk : likeB adj n = true := by
          cases h : likeB adj n
          · rw [hy.1, h] at g2; exact absurd rfl g2
          · rfl
        rw [← hv, if_pos hlk]
  unfold LN_clash
  refine ok_i (fun g => main (Or.inl g)) (fun g => ok_i (fun g2 => main (Or.inr g2)) (fun g2 => ok_s ⟨?_, hc⟩))
  unfold spClash
  rw [if_neg (fun h => h.elim g g2)]
theorem in01 {x : Int32} : (0 ≤ x ∧ x ≤ 1) ↔ (x = 0 ∨ x = 1) := by
  rw [fa_le, fa_le, fa_eq, fa_eq]
  have z : (0 : Int32).toInt = 0 := rfl
  have o : (1 : Int32).toInt = 1 := rfl
  omega
theorem M_clash_s {n : Nat} {x : Int32} {it road ta tb tc w0 : Nat → Int32} {cp cq f0 g0 im : Int32} {adj : Nat → Nat → Bool} (hw : WF n adj) (hb : Mb road adj) (hc : MC adj n f0 g0 im w0) : Ok (M_clash x cp cq f0 g0 im (nI n) it road ta tb tc w0) (fun z => z.1 = spClash adj n x ∧ MC adj n z.2.2.2.1 z.2.2.2.2.1 z.2.2.2.2.2.1 z.2.2.2.2.2.2.2.2.2.2) := by
  have hn := hw.1
  unfold M_clash M_clash_n49
  refine ok_e (M_inI (lo := 0) (hi := 1)) ?_
  generalize hv : spClash adj n x = v
  unfold spClash at hv
  by_cases hx : x = 0 ∨ x = 1
  rotate_left
  · rw [if_neg hx] at hv
    exact ok_t (by rw [decide_eq_false (fun h => hx (in01.mp h))]; rfl) (ok_s ⟨hv, hc⟩)
  rw [if_pos hx] at hv
  refine ok_f (by rw [decide_eq_true (in01.mpr hx)]; decide) (ok_b (M_isWhole_s hw hb hc) (fun z hz => ?_))
  have hC : MC adj n z.2.1 z.2.2.1 z.2.2.2.1 z.2.2.2.2 := Or.inr hz.2
  refine ok_i (fun g => ok_s ⟨?_, hC⟩) (fun g => ok_b (M_isLike_s hw hb hC) (fun y hy => ?_))
  · rw [hz.1, bI_eq0] at g
    rw [← hv, if_neg (by rw [g]; decide)]
  · have hwh : wholeB adj n = true := by
      cases h : wholeB adj n
      · rw [hz.1, h] at g; exact absurd rfl g
      · rfl
    rw [if_pos hwh] at hv
    refine ok_i (fun g2 => ?_) (fun g2 => ok_s ⟨?_, Or.inr hy.2⟩)
    · rw [hy.1.1, bI_eq0] at g2
      obtain ⟨p, q, hF, e1, e2⟩ := hy.1.2.1 hwh g2
      rw [if_neg (by rw [g2]; decide), clN_is hF] at hv
      refine ok_i (fun g3 => ok_s ⟨?_, Or.inr hy.2⟩) (fun g3 => ok_s ⟨?_, Or.inr hy.2⟩)
      · rw [if_pos g3] at hv; rw [← hv]; exact e1
      · rw [if_neg g3] at hv; rw [← hv]; exact e2
    · have hlk : likeB adj n = true := by
        cases h : likeB adj n
        · rw [hy.1.1, h] at g2; exact absurd rfl g2
        · rfl
      rw [← hv, if_pos hlk]
/-! the table of a like net -/
theorem like_same {adj : Nat → Nat → Bool} {n p q p2 q2 : Nat} (h : likeB adj n = true) (hp : p < n) (hq : q < n) (hp2 : p2 < n) (hq2 : q2 < n) (e : dN adj n p q = dN adj n p2 q2) : triE adj n p q p2 q2 := by
  have hl := (like_t.mp h).2
  have t : bef p q p2 q2 ∨ bef p2 q2 p q ∨ (p = p2 ∧ q = q2) := by unfold bef; omega
  apply Classical.byContradiction
  intro hne
  rcases t with t | t | t
  · exact hl p2 hp2 q2 hq2 ⟨p, q, t, hp, hq, e, hne⟩
  · exact hl p hp q hq ⟨p2, q2, t, hp2, hq2, e.symm, fun g => hne ⟨g.1.symm, g.2.1.symm, g.2.2.symm⟩⟩
  · obtain ⟨rfl, rfl⟩ := t; exact hne ⟨rfl, rfl, rfl⟩
theorem pair_at {adj : Nat → Nat → Bool} {n i : Nat} (hw : WF n adj) (hL : LM adj n n (farN adj n)) (hn : 0 < n) (hi : i ≤ farN adj n) : ∃ p q, p < n ∧ q < n ∧ dN adj n p q = i := by
  have h32 := hL.1
  rcases hL.2.2 with h | ⟨a, q, ha, hq, e⟩
  · exact ⟨0, 0, hn, hn, by rw [dN_self]; omega⟩
  · obtain ⟨f, hf⟩ := dN_chain (adj := adj) (n := n) (p := a) (farN adj n) q (by omega) hq e
    exact ⟨a, f i, ha, (hf i hi).1, (hf i hi).2⟩
noncomputable def prN (adj : Nat → Nat → Bool) (n i : Nat) : Nat × Nat := Classical.epsilon (fun pq : Nat × Nat => pq.1 < n ∧ pq.2 < n ∧ dN adj n pq.1 pq.2 = i)
theorem prN_is {adj : Nat → Nat → Bool} {n i : Nat} (hw : WF n adj) (hL : LM adj n n (farN adj n)) (hn : 0 < n) (hi : i ≤ farN adj n) : (prN adj n i).1 < n ∧ (prN adj n i).2 < n ∧ dN adj n (prN adj n i).1 (prN adj n i).2 = i := by
  obtain ⟨p, q, h⟩ := pair_at hw hL hn hi
  exact Classical.epsilon_spec (p := fun pq : Nat × Nat => pq.1 < n ∧ pq.2 < n ∧ dN adj n pq.1 pq.2 = i) ⟨(p, q), h⟩
noncomputable def tbC (adj : Nat → Nat → Bool) (n i : Nat) : Nat := triC adj n (prN adj n i).1 (prN adj n i).2
noncomputable def tbA (adj : Nat → Nat → Bool) (n i : Nat) : Nat := triA adj n (prN adj n i).1 (prN adj n i).2
noncomputable def tbB (adj : Nat → Nat → Bool) (n i : Nat) : Nat := triB adj n (prN adj n i).1 (prN adj n i).2
def tbK (adj : Nat → Nat → Bool) (n i : Nat) : Nat := fb_ct (fun q => decide (dN adj n 0 q = i)) n
theorem LK_row {adj : Nat → Nat → Bool} {n i : Nat} {cf ct ho : Int32} {a b c : Nat → Int32} (hw : WF n adj) (hL : LM adj n n (farN adj n)) (hn : 0 < n) (hi : i ≤ farN adj n) (h : LK adj n cf ct ho a b c) (hl : likeB adj n = true) : c i = nI (tbC adj n i) ∧ a i = nI (tbA adj n i) ∧ b i = nI (tbB adj n i) := by
  obtain ⟨h1, h2, h3⟩ := prN_is hw hL hn hi
  have := h.2.2 hl _ h1 _ h2
  rw [h3] at this
  exact this
noncomputable def spTable (adj : Nat → Nat → Bool) (n : Nat) (i x : Int32) : Int32 := if 0 ≤ x ∧ x ≤ 3 then (if likeB adj n = true then (if 0 ≤ i ∧ i ≤ nI (farN adj n) then (if x = 0 then nI (tbC adj n i.toNatClampNeg) else if x = 1 then nI (tbA adj n i.toNatClampNeg) else if x = 2 then nI (tbB adj n i.toNatClampNeg) else nI (tbK adj n i.toNatClampNeg)) else -1) else -5) else -1
theorem nlt_le {x y : Int32} : ¬ x < y ↔ y ≤ x := by rw [fa_lt, fa_le]; omega
theorem LN_table_s {n : Nat} {i x : Int32} {near a b c ly re st : Nat → Int32} {cf ct ho lr f rd sz wh : Int32} {adj : Nat → Nat → Bool} (hw : WF n adj) (hb : Lb near adj) (hc : LNC adj n cf ct ho lr f rd sz wh a b c ly re st) : Ok (LN_table i x cf ct ho lr (nI n) f rd sz wh a b c near ly re st) (fun z => z.1 = spTable adj n i x ∧ LNC adj n z.2.1 z.2.2.1 z.2.2.2.1 z.2.2.2.2.1 z.2.2.2.2.2.1 z.2.2.2.2.2.2.1 z.2.2.2.2.2.2.2.1 z.2.2.2.2.2.2.2.2.1 z.2.2.2.2.2.2.2.2.2.1 z.2.2.2.2.2.2.2.2.2.2.1 z.2.2.2.2.2.2.2.2.2.2.2.1 z.2.2.2.2.2.2.2.2.2.2.2.2.1 z.2.2.2.2.2.2.2.2.2.2.2.2.2.1 z.2.2.2.2.2.2.2.2.2.2.2.2.2.2) := by
  have hn := hw.1
  unfold LN_table LN_table_n9 LN_table_n36
  generalize hv : spTable adj n i x = v
  unfold spTable at hv
  refine ok_i (fun g => ok_s ⟨by rw [← hv, if_neg (fun h => nlt_le.mpr h.1 g)], hc⟩) (fun g => ok_i (fun g2 => ?_) (fun g2 => ok_s ⟨by rw [← hv, if_neg (fun h => g2 h.2)], hc⟩))
  rw [if_pos ⟨nlt_le.mp g, g2⟩] at hv
  refine ok_b (LN_isLike_s hw hb hc) (fun y hy => ?_)
  have hC := LNR_C hy.2
  refine ok_i (fun g3 => ok_s ⟨?_, hC⟩) (fun g3 => ?_)
  · rw [hy.1, bI_eq0] at g3
    rw [← hv, if_neg (by rw [g3]; decide)]
  · have hlk : likeB adj n = true := by
      cases h : likeB adj n
      · rw [hy.1, h] at g3; exact absurd rfl g3
      · rfl
    have hwh := (like_t.mp hlk).1
    have h0 := (whole_all hw hwh).1
    have hf := LW_far hw hy.2.2.2.2
    have hLM := LW_le hw hy.2.2.2.2
    have h32 := hLM.1
    rw [if_pos hwh] at hf
    rw [if_pos hlk] at hv
    rw [hf]
    refine ok_i (fun g4 => ok_s ⟨by rw [← hv, if_neg (fun h => nlt_le.mpr h.1 g4)], by rw [← hf]; exact hC⟩) (fun g4 => ok_i (fun g5 => ?_) (fun g5 => ok_s ⟨by rw [← hv, if_neg (fun h => g5 h.2)], by rw [← hf]; exact hC⟩))
    rw [if_pos ⟨nlt_le.mp g4, g5⟩] at hv
    obtain ⟨k, hk, rfl⟩ := nI_of g4
    have hk2 : k ≤ farN adj n := (nI_leI hk (by omega)).mp g5
    have hk3 : k < 32 := by
      obtain ⟨p, q, h1, h2, h3⟩ := pair_at hw hLM h0 hk2
      have := dN_bound hw h1 (q := q) (by omega)
      omega
    have hrow := LK_row hw hLM h0 hk2 hy.2.2.2.1 hlk
    rw [cl_nI hk] at hv ⊢
    by_cases x0 : x = 0
    · rw [if_pos x0] at hv ⊢
      exact ok_g (inb_nI hk3 (by omega)) (ok_s ⟨by rw [← hv]; exact hrow.1, by rw [← hf]; exact hC⟩)
    rw [if_neg x0] at hv ⊢
    by_cases x1 : x = 1
    · rw [if_pos x1] at hv ⊢
      exact ok_g (inb_nI hk3 (by omega)) (ok_s ⟨by rw [← hv]; exact hrow.2.1, by rw [← hf]; exact hC⟩)
    rw [if_neg x1] at hv ⊢
    by_cases x2 : x = 2
    · rw [if_pos x2] at hv ⊢
      exact ok_g (inb_nI hk3 (by omega)) (ok_s ⟨by rw [← hv]; exact hrow.2.2, by rw [← hf]; exact hC⟩)
    rw [if_neg x2] at hv ⊢
    refine ok_b (Wy_postsAt_s (p := 0) hw h0 hk (hy.2.2.2.2.2.1 0 h0)) (fun m hm => ok_e (JI_bitCount_s _) (ok_s ⟨?_, by rw [← hf]; exact hC⟩))
    rw [← hv]
    show nI (cnt m) = _
    refine congrArg nI ?_
    unfold tbK cnt
    rw [← ct_ext hn (p := fun q => decide (dN adj n 0 q = k)) (fun j hj => decide_eq_false (fun g => by have := dN_lt hw h0 (q := j) (by omega); omega))]
    refine fb_ct_cong (fun j hj => bt_iff ?_)
    rw [hm j hj, decide_eq_true_iff]
    exact ⟨fun h => h.1, fun h => ⟨h, by omega⟩⟩
theorem M_atWay_s {n i : Nat} {w : Nat → Int32} {adj : Nat → Nat → Bool} (hn : n ≤ 32) (h0 : 0 < n) (hm : ∀ p, p < n → ∀ q, q < 32 → w (32 * p + q) = wy (dN adj n p q)) (hi : i < 33) : M_atWay 0 (nI i) (nI n) w = some (nI (tbK adj n i)) := by
  unfold M_atWay tbK
  apply ok_eq
  refine fr2 (fun F a b => M_atWay_l5 (nI n) w F 0 (nI i) a b) (fun k a b => a = nI (fb_ct (fun q => decide (dN adj n 0 q = i)) k) ∧ b = nI k) n (fuel_big (by omega)) ?_ ?_ 0 (Nat.zero_le _) 0 0 ⟨rfl, rfl⟩
  · rintro k hk a b ⟨rfl, rfl⟩ F ih
    rw [M_atWay_l5_s]
    unfold M_atWay_n5 M_atWay_n36
    rw [show (0 : Int32) = nI 0 from rfl, i32]
    refine ok_f (nI_ge hk (by omega)) (ok_g (inb_nI (by omega) (by omega)) ?_)
    rw [cl_nI (by omega), hm 0 h0 k (by omega)]
    refine ok_i (fun c => ih _ _ ⟨?_, nI_1 k⟩) (fun c => ih _ _ ⟨?_, nI_1 k⟩)
    · rw [fb_ct_succ, decide_eq_true ((wy_is hi).mp c), nI_1]; rfl
    · rw [fb_ct_succ, decide_eq_false (fun e => c ((wy_is hi).mpr e)), nI_add]; rfl
  · rintro a b ⟨rfl, rfl⟩ F
    rw [M_atWay_l5_s]
    unfold M_atWay_n5 M_atWay_n44
    exact ok_t (nI_le (Nat.le_refl n) (by omega)) (ok_s rfl)
theorem in03 {x : Int32} : (0 ≤ x ∧ x ≤ 3) ↔ (0 ≤ x ∧ x ≤ 3) := Iff.rfl
theorem M_table_s {n : Nat} {i x : Int32} {it road ta tb tc w0 : Nat → Int32} {cp cq f0 g0 im : Int32} {adj : Nat → Nat → Bool} (hw : WF n adj) (hb : Mb road adj) (hc : MC adj n f0 g0 im w0) : Ok (M_table i x cp cq f0 g0 im (nI n) it road ta tb tc w0) (fun z => z.1 = spTable adj n i x ∧ MC adj n z.2.2.2.1 z.2.2.2.2.1 z.2.2.2.2.2.1 z.2.2.2.2.2.2.2.2.2.2) := by
  have hn := hw.1
  unfold M_table M_table_n87
  refine ok_e (M_inI (lo := 0) (hi := 3)) ?_
  generalize hv : spTable adj n i x = v
  unfold spTable at hv
  by_cases hx : 0 ≤ x ∧ x ≤ 3
  rotate_left
  · rw [if_neg hx] at hv
    exact ok_t (by rw [decide_eq_false hx]; rfl) (ok_s ⟨hv, hc⟩)
  rw [if_pos hx] at hv
  refine ok_f (by rw [decide_eq_true hx]; decide) (ok_b (M_isLike_s hw hb hc) (fun y hy => ?_))
  have hC : MC adj n y.2.2.2.1 y.2.2.2.2.1 y.2.2.2.2.2.1 y.2.2.2.2.2.2.2.2.2.2 := Or.inr hy.2
  refine ok_i (fun g3 => ok_s ⟨?_, hC⟩) (fun g3 => ?_)
  · rw [hy.1.1, bI_eq0] at g3
    rw [← hv, if_neg (by rw [g3]; decide)]
  · have hlk : likeB adj n = true := by
      cases h : likeB adj n
      · rw [hy.1.1, h] at g3; exact absurd rfl g3
      · rfl
    have hwh := (like_t.mp hlk).1
    have h0 := (whole_all hw hwh).1
    have hf := MW_far hw hwh hy.2.2
    obtain ⟨F, eF, hF⟩ := hy.2.2.2.1
    have hLM := FM_LM hw hwh hF
    rw [← farN_eq hw hLM] at hLM
    have h32 := hLM.1
    rw [if_pos hlk] at hv
    rw [hf]
    refine ok_e (M_inI (lo := 0) (hi := nI (farN adj n))) ?_
    by_cases hi : 0 ≤ i ∧ i ≤ nI (farN adj n)
    rotate_left
    · rw [if_neg hi] at hv
      exact ok_t (by rw [decide_eq_false hi]; rfl) (ok_s ⟨hv, by rw [← hf]; exact hC⟩)
    rw [if_pos hi] at hv
    refine ok_f (by rw [decide_eq_true hi]; decide) ?_
    obtain ⟨k, hk, rfl⟩ := nI_of (nlt_le.mpr hi.1)
    have hk2 : k ≤ farN adj n := (nI_leI hk (by omega)).mp hi.2
    have hrow := LK_row hw hLM h0 hk2 hy.1 hlk
    rw [cl_nI hk] at hv ⊢
    by_cases x0 : x = 0
    · rw [if_pos x0] at hv ⊢
      exact ok_g (inb_nI (by omega) (by omega)) (ok_s ⟨by rw [← hv]; exact hrow.1, by rw [← hf]; exact hC⟩)
    rw [if_neg x0] at hv ⊢
    by_cases x1 : x = 1
    · rw [if_pos x1] at hv ⊢
      exact ok_g (inb_nI (by omega) (by omega)) (ok_s ⟨by rw [← hv]; exact hrow.2.1, by rw [← hf]; exact hC⟩)
    rw [if_neg x1] at hv ⊢
    by_cases x2 : x = 2
    · rw [if_pos x2] at hv ⊢
      exact ok_g (inb_nI (by omega) (by omega)) (ok_s ⟨by rw [← hv]; exact hrow.2.2, by rw [← hf]; exact hC⟩)
    rw [if_neg x2] at hv ⊢
    exact ok_e (M_atWay_s hn h0 hy.2.2.1 (by omega)) (ok_s ⟨hv, by rw [← hf]; exact hC⟩)
