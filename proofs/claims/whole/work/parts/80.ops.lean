
/-! take, all calls, the start -/
theorem op_take (σ : St) (h : Inv σ) : ∃ (r : Int32) (σ1 σ2 : St), eL_take σ r σ1 ∧ eM_take σ1 r σ2 ∧ Inv σ2 := by
  obtain ⟨hS, hK, ⟨n, adj, hw, ⟨e1, hb, hc, hs, hp⟩, e2, hb2, hc2, hp2⟩, d, be, ga, hT, ⟨t1, b1, c1, hj⟩, t2, b2, c2⟩ := h
  have hl : Ok (LN_take (σ.1 1541) (σ.1 1542) (σ.1 1540) (σ.1 1539) (σ.1 641) (σ.1 1804) (σ.1 1800) (σ.1 1286) (σ.1 1283) (σ.1 1285) (σ.1 1284) (σ.2.2.1 26) (σ.2.2.1 27) (σ.2.2.1 25) (σ.2.2.1 11) (σ.2.2.1 29) (σ.2.2.1 30) (σ.2.2.1 22) (σ.2.2.1 23) (σ.2.2.1 21)) (fun z => ((takeP adj n → z.1 = nI (farN adj n) ∧ z.2.2.2.2.2.1 = 0 ∧ z.2.2.2.2.2.2.1 = nI (farN adj n) ∧ TB z.2.2.2.2.2.2.2.2.2.2.2.2.2.2.1 (tkB adj n) ∧ TB z.2.2.2.2.2.2.2.2.2.2.2.2.2.2.2.1 (tkC adj n)) ∧ (¬ takeP adj n → z.1 = -5 ∧ z.2.2.2.2.2.1 = (σ.1 1804) ∧ z.2.2.2.2.2.2.1 = (σ.1 1800) ∧ z.2.2.2.2.2.2.2.2.2.2.2.2.2.2.1 = (σ.2.2.1 29) ∧ z.2.2.2.2.2.2.2.2.2.2.2.2.2.2.2.1 = (σ.2.2.1 30))) ∧ LNC adj n z.2.1 z.2.2.1 z.2.2.2.1 z.2.2.2.2.1 z.2.2.2.2.2.2.2.1 z.2.2.2.2.2.2.2.2.1 z.2.2.2.2.2.2.2.2.2.1 z.2.2.2.2.2.2.2.2.2.2.1 z.2.2.2.2.2.2.2.2.2.2.2.1 z.2.2.2.2.2.2.2.2.2.2.2.2.1 z.2.2.2.2.2.2.2.2.2.2.2.2.2.1 z.2.2.2.2.2.2.2.2.2.2.2.2.2.2.2.2.1 z.2.2.2.2.2.2.2.2.2.2.2.2.2.2.2.2.2.1 z.2.2.2.2.2.2.2.2.2.2.2.2.2.2.2.2.2.2) := by rw [e1]; exact LN_take_s hw hb hc
  have hm : Ok (M_take (σ.1 3221) (σ.1 3222) (σ.1 3214) (σ.1 3215) (σ.1 3212) (σ.1 3208) (σ.1 3203) (σ.2.2.1 64) (σ.2.2.1 54) (σ.2.2.1 62) (σ.2.2.1 63) (σ.2.2.1 61) (σ.2.2.1 56) (σ.2.2.1 57) (σ.2.2.1 59)) (fun z => ((takeP adj n → z.1 = nI (farN adj n) ∧ z.2.2.2.2.2.2.1 = nI (farN adj n) ∧ TB z.2.2.2.2.2.2.2.2.2.2.2.1 (tkB adj n) ∧ TB z.2.2.2.2.2.2.2.2.2.2.2.2.1 (tkC adj n)) ∧ (¬ takeP adj n → z.1 = -5 ∧ z.2.2.2.2.2.2.1 = (σ.1 3208) ∧ z.2.2.2.2.2.2.2.2.2.2.2.1 = (σ.2.2.1 56) ∧ z.2.2.2.2.2.2.2.2.2.2.2.2.1 = (σ.2.2.1 57))) ∧ MC adj n z.2.2.2.1 z.2.2.2.2.1 z.2.2.2.2.2.1 z.2.2.2.2.2.2.2.2.2.2.2.2.2) := by rw [e2]; exact M_take_s hw hb2 hc2
  obtain ⟨⟨z0, z1, z2, z3, z4, z5, z6, z7, z8, z9, z10, z11, z12, z13, z14, z15, z16, z17, z18⟩, ez, hz⟩ := hl
  obtain ⟨⟨v0, v1, v2, v3, v4, v5, v6, v7, v8, v9, v10, v11, v12, v13⟩, ev, hv⟩ := hm
  by_cases g : takeP adj n
  · obtain ⟨q0, q1, q2, q3, q4⟩ := hz.1.1 g
    obtain ⟨p0, p1, p2, p3⟩ := hv.1.1 g
    have er : v0 = z0 := p0.trans q0.symm
    subst er
    exact ⟨v0, _, _, ⟨z1, z2, z3, z4, z5, z6, z7, z8, z9, z10, z11, z12, z13, z14, z15, z16, z17, z18, ez, rfl⟩, ⟨v1, v2, v3, v4, v5, v6, v7, v8, v9, v10, v11, v12, v13, ev, rfl⟩, hS, hK, ⟨n, adj, hw, ⟨e1, hb, hz.2, hs, hp⟩, e2, hb2, hv.2, hp2⟩, farN adj n, tkB adj n, tkC adj n, tk_TT g, ⟨q2, q3, q4, Or.inl q1⟩, p1, p2, p3⟩
  · obtain ⟨q0, q1, q2, q3, q4⟩ := hz.1.2 g
    obtain ⟨p0, p1, p2, p3⟩ := hv.1.2 g
    have er : v0 = z0 := p0.trans q0.symm
    subst er
    have y1 : z6 = nI d := (show z6 = σ.1 1800 from q2).trans t1
    have y2 : TB z14 be := by rw [show z14 = σ.2.2.1 29 from q3]; exact b1
    have y3 : TB z15 ga := by rw [show z15 = σ.2.2.1 30 from q4]; exact c1
    have y4 : JK d be ga (σ.1 1802) z5 (σ.1 1801) (σ.2.1 1803) (σ.2.2.1 35) (σ.2.2.1 36) (σ.2.2.2 31) (σ.2.2.2 32) := by rw [show z5 = σ.1 1804 from q1]; exact hj
    have w1 : v6 = nI d := (show v6 = σ.1 3208 from p1).trans t2
    have w2 : TB v11 be := by rw [show v11 = σ.2.2.1 56 from p2]; exact b2
    have w3 : TB v12 ga := by rw [show v12 = σ.2.2.1 57 from p3]; exact c2
    exact ⟨v0, _, _, ⟨z1, z2, z3, z4, z5, z6, z7, z8, z9, z10, z11, z12, z13, z14, z15, z16, z17, z18, ez, rfl⟩, ⟨v1, v2, v3, v4, v5, v6, v7, v8, v9, v10, v11, v12, v13, ev, rfl⟩, hS, hK, ⟨n, adj, hw, ⟨e1, hb, hz.2, hs, hp⟩, e2, hb2, hv.2, hp2⟩, d, be, ga, hT, ⟨y1, y2, y3, y4⟩, w1, w2, w3⟩
theorem ops_all : lawOps Inv := ⟨op_sheet, op_cell, op_lose, op_net, op_road, op_load, op_joined, op_build, op_way, op_many, op_clash, op_table, op_thirds, op_tell, op_put, op_take, op_can, op_entry, op_posts, op_third, op_root, op_walks, op_bound, op_fold, op_half, op_twice, op_power, op_other, op_lines, op_keep, op_back, op_perfect, op_heap, op_kinds, op_kind⟩
theorem Inv_0 : Inv st0 := by
  have sh : ∀ r, r < 4 → ISh r 0 0 0 (fun _ => 0) (fun _ => 0) (fun _ => 0) (st0.2.2.1 52) := by
    intro r hr
    refine ⟨0, by decide, rfl, Or.inl ⟨rfl, ?_⟩⟩
    rcases (show r = 0 ∨ r = 1 ∨ r = 2 ∨ r = 3 by omega) with rfl | rfl | rfl | rfl <;> rfl
  have six : ∀ j, j < 6 → j = 0 ∨ j = 1 ∨ j = 2 ∨ j = 3 ∨ j = 4 ∨ j = 5 := fun j hj => by omega
  have y1 : TB (st0.2.2.1 29) (t0b 1) := by
    intro j hj
    rcases six j hj with rfl | rfl | rfl | rfl | rfl | rfl <;> rfl
  have y2 : TB (st0.2.2.1 30) (t0c 1) := by
    intro j hj
    rcases six j hj with rfl | rfl | rfl | rfl | rfl | rfl <;> rfl
  have y3 : TB (st0.2.2.1 56) (t0b 1) := by
    intro j hj
    rcases six j hj with rfl | rfl | rfl | rfl | rfl | rfl <;> rfl
  have y4 : TB (st0.2.2.1 57) (t0c 1) := by
    intro j hj
    rcases six j hj with rfl | rfl | rfl | rfl | rfl | rfl <;> rfl
  refine ⟨⟨sh 0 (by decide), sh 1 (by decide), sh 2 (by decide), sh 3 (by decide)⟩, Or.inl ⟨rfl, rfl⟩, ⟨0, fun _ _ => false, WF_empty (by decide), ⟨rfl, ?_, ⟨Or.inl rfl, Or.inl rfl⟩, Or.inl rfl, Or.inl rfl⟩, rfl, ?_, Or.inl rfl, Or.inl rfl⟩, 1, t0b 1, t0c 1, TT_0 (by decide) (by decide), ⟨rfl, y1, y2, Or.inl rfl⟩, rfl, y3, y4⟩
  · exact Lb_of (Lb_empty (fun _ => 0)) (fun j hj => by rw [fa_fill_in hj]; rfl)
  · exact Mb_of (Mb_empty (fun _ => 0)) (fun j hj => by rw [fa_fill_in hj]; rfl)
