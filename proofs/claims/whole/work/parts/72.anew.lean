
/-! the calls that make the net anew -/
theorem IN_f {A : Nat → Nat → Bool} {m : Nat} {σ : St} (hw : WF m A) (h : LFr A m (σ.1 1539) (σ.1 641) (σ.1 2632) (σ.1 2372) (σ.1 1283) (σ.2.2.1 11)) (h2 : MFr A m (σ.1 3238) (σ.1 3212) (σ.1 3203) (σ.2.2.1 54)) : IN σ :=
  ⟨m, A, hw, ⟨h.2.1, h.2.2.2.2.2, ⟨Or.inl h.2.2.2.2.1, Or.inl h.1⟩, Or.inl h.2.2.2.1, Or.inl h.2.2.1⟩, h2.2.2.1, h2.2.2.2, Or.inl h2.2.1, Or.inl h2.1⟩
theorem setA_same {n p q : Nat} {adj : Nat → Nat → Bool} {v : Bool} (hw : WF n adj) (g : adj p q = v) : setA adj p q v = adj := by
  funext a b
  unfold setA
  by_cases c : (a = p ∧ b = q) ∨ (a = q ∧ b = p)
  · rw [if_pos c]
    rcases c with ⟨h1, h2⟩ | ⟨h1, h2⟩
    · rw [h1, h2, g]
    · rw [h1, h2, hw.2.1, g]
  · rw [if_neg c]
theorem op_net (σ : St) (x1 : Int32) (h : Inv σ) : ∃ (r : Int32) (σ1 σ2 : St), eL_net x1 σ r σ1 ∧ eM_net x1 σ1 r σ2 ∧ Inv σ2 := by
  obtain ⟨hS, hK, hN, hT⟩ := h
  rcases LN_net_s (x := x1) (a := σ.1 1539) (s0 := σ.1 641) (b := σ.1 2632) (c := σ.1 2372) (d := σ.1 1283) (near := σ.2.2.1 11) with ⟨n, hn, e, h1⟩ | ⟨e, h1⟩
  · have h2 := (M_net_s (x := x1) (a := σ.1 3238) (b := σ.1 3212) (p0 := σ.1 3203) (road := σ.2.2.1 54)).1 (by rw [e, nI_toInt (by omega)]; omega)
    exact ⟨1, _, _, ⟨_, _, _, _, _, _, h1, rfl⟩, ⟨_, _, _, _, h2, rfl⟩, hS, hK, IN_f (WF_empty hn) ⟨rfl, rfl, rfl, rfl, rfl, Lb_empty _⟩ ⟨rfl, rfl, e, Mb_empty _⟩, hT⟩
  · have h2 := (M_net_s (x := x1) (a := σ.1 3238) (b := σ.1 3212) (p0 := σ.1 3203) (road := σ.2.2.1 54)).2 e
    exact ⟨-1, _, _, ⟨_, _, _, _, _, _, h1, rfl⟩, ⟨_, _, _, _, h2, rfl⟩, hS, hK, hN, hT⟩
theorem op_road (σ : St) (x1 : Int32) (x2 : Int32) (x3 : Int32) (hx : x3 = 0 ∨ x3 = 1) (h : Inv σ) : ∃ (r : Int32) (σ1 σ2 : St), eL_road x1 x2 x3 σ r σ1 ∧ eM_road x1 x2 x3 σ1 r σ2 ∧ Inv σ2 := by
  obtain ⟨hS, hK, ⟨n, adj, hw, ⟨e1, hb, hc, hs, hp⟩, e2, hb2, hc2, hp2⟩, hT⟩ := h
  obtain ⟨v, rfl⟩ : ∃ v : Bool, x3 = bI v := by
    rcases hx with rfl | rfl
    · exact ⟨false, rfl⟩
    · exact ⟨true, rfl⟩
  have h1 := LN_road_s (x := x1) (y := x2) (v := v) (a := σ.1 1539) (b := σ.1 2632) (c := σ.1 2372) (d := σ.1 1283) hw hb
  have h2 := M_road_s (x := x1) (y := x2) (v := v) (a := σ.1 3238) (b := σ.1 3212) hw hb2
  rw [← e1] at h1
  rw [← e2] at h2
  rcases h1 with ⟨g, h1⟩ | ⟨p, q, ep, eq, hp', hq', hpq, h1⟩
  · exact ⟨-1, _, _, ⟨_, _, _, _, _, h1, rfl⟩, ⟨_, _, _, h2.1 g, rfl⟩, hS, hK, ⟨n, adj, hw, ⟨e1, hb, hc, hs, hp⟩, e2, hb2, hc2, hp2⟩, hT⟩
  · obtain ⟨w, h2, hbw⟩ := h2.2 p q ep eq hp' hq' hpq
    rcases h1 with ⟨g, h1⟩ | ⟨g, w1, h1, hb1⟩
    · have e3 : bI (adj p q != v) = 0 := by rw [g]; cases v <;> rfl
      rw [e3] at h2
      have hA : setA adj p q v = adj := setA_same hw g
      rw [hA] at hbw
      exact ⟨0, _, _, ⟨_, _, _, _, _, h1, rfl⟩, ⟨_, _, _, h2, rfl⟩, hS, hK, ⟨n, adj, hw, ⟨e1, hb, hc, hs, hp⟩, e2, hbw, Or.inl rfl, Or.inl rfl⟩, hT⟩
    · have e3 : bI (adj p q != v) = 1 := by
        have : (adj p q != v) = true := bne_iff_ne.mpr g
        rw [this]; rfl
      rw [e3] at h2
      exact ⟨1, _, _, ⟨_, _, _, _, _, h1, rfl⟩, ⟨_, _, _, h2, rfl⟩, hS, hK, IN_f (WF_setA hw hp' hq' hpq) ⟨rfl, e1, rfl, rfl, rfl, hb1⟩ ⟨rfl, rfl, e2, hbw⟩, hT⟩
theorem op_build (σ : St) (x1 : Int32) (x2 : Int32) (x3 : Int32) (h : Inv σ) : ∃ (r : Int32) (σ1 σ2 : St), eL_build x1 x2 x3 σ r σ1 ∧ eM_build x1 x2 x3 σ1 r σ2 ∧ Inv σ2 := by
  obtain ⟨hS, hK, hN, hT⟩ := h
  rcases build_any x1 x2 x3 with ⟨r, h1, h2⟩ | ⟨N, A, hw, h1, h2⟩
  · exact ⟨r, _, _, ⟨_, _, _, _, _, _, _, _, _, h1 _ _ _ _ _ _ _ _ _, rfl⟩, ⟨_, _, _, _, _, h2 _ _ _ _ _, rfl⟩, hS, hK, hN, hT⟩
  · obtain ⟨⟨z0, z1, z2, z3, z4, z5, z6, z7, z8, z9⟩, ez, q0, hz⟩ := h1 (σ.1 1539) (σ.1 769) (σ.1 641) (σ.1 2632) (σ.1 2372) (σ.1 1283) (σ.2.2.1 13) (σ.2.2.1 19) (σ.2.2.1 11)
    obtain ⟨⟨v0, v1, v2, v3, v4, v5⟩, ev, p0, hv⟩ := h2 (σ.1 3238) (σ.1 3212) (σ.1 3203) (σ.2.2.1 54) (σ.2.2.1 58)
    have er : v0 = z0 := p0.trans q0.symm
    subst er
    exact ⟨v0, _, _, ⟨z1, z2, z3, z4, z5, z6, z7, z8, z9, ez, rfl⟩, ⟨v1, v2, v3, v4, v5, ev, rfl⟩, hS, hK, IN_f hw hz hv, hT⟩
theorem op_fold (σ : St) (h : Inv σ) : ∃ (r : Int32) (σ1 σ2 : St), eL_fold σ r σ1 ∧ eM_fold σ1 r σ2 ∧ Inv σ2 := by
  obtain ⟨hS, hK, ⟨n, adj, hw, ⟨e1, hb, hc, hs, hp⟩, e2, hb2, hc2, hp2⟩, hT⟩ := h
  have hl : Ok (LN_fold (σ.1 1539) (σ.1 769) (σ.1 641) (σ.1 2632) (σ.1 2372) (σ.1 1286) (σ.1 1283) (σ.1 1285) (σ.1 1284) (σ.2.2.1 16) (σ.2.2.1 13) (σ.2.2.1 11) (σ.2.2.1 22) (σ.2.2.1 23) (σ.2.2.1 21)) (fun z => (foldedB adj n = true → z.1 = nI (folN adj n) ∧ LFr (folA adj n) (folN adj n) z.2.1 z.2.2.2.1 z.2.2.2.2.1 z.2.2.2.2.2.1 z.2.2.2.2.2.2.2.1 z.2.2.2.2.2.2.2.2.2.2.2.2.1) ∧ (¬ foldedB adj n = true → z.1 = -5 ∧ z.2.1 = (σ.1 1539) ∧ z.2.2.2.1 = nI n ∧ z.2.2.2.2.1 = (σ.1 2632) ∧ z.2.2.2.2.2.1 = (σ.1 2372) ∧ z.2.2.2.2.2.2.2.2.2.2.2.2.1 = (σ.2.2.1 11) ∧ z.2.2.2.2.2.2.2.1 = 1 ∧ LW adj n z.2.2.2.2.2.2.1 z.2.2.2.2.2.2.2.2.1 z.2.2.2.2.2.2.2.2.2.1 z.2.2.2.2.2.2.2.2.2.2.2.2.2.1 z.2.2.2.2.2.2.2.2.2.2.2.2.2.2.1 z.2.2.2.2.2.2.2.2.2.2.2.2.2.2.2)) := by rw [e1]; exact LN_fold_s hw hb hc.1
  have hm : Ok (M_fold (σ.1 3238) (σ.1 3214) (σ.1 3215) (σ.1 3212) (σ.1 3203) (σ.2.2.1 70) (σ.2.2.1 71) (σ.2.2.1 54) (σ.2.2.1 59)) (fun z => (foldedB adj n = true → z.1 = nI (folN adj n) ∧ MFr (folA adj n) (folN adj n) z.2.1 z.2.2.2.2.1 z.2.2.2.2.2.1 z.2.2.2.2.2.2.2.2.1) ∧ (¬ foldedB adj n = true → z.1 = -5 ∧ z.2.1 = (σ.1 3238) ∧ z.2.2.2.2.2.1 = nI n ∧ z.2.2.2.2.2.2.2.2.1 = (σ.2.2.1 54) ∧ MC adj n z.2.2.1 z.2.2.2.1 z.2.2.2.2.1 z.2.2.2.2.2.2.2.2.2)) := by rw [e2]; exact M_fold_s hw hb2 hc2
  obtain ⟨⟨z0, z1, z2, z3, z4, z5, z6, z7, z8, z9, z10, z11, z12, z13, z14, z15⟩, ez, hz⟩ := hl
  obtain ⟨⟨v0, v1, v2, v3, v4, v5, v6, v7, v8, v9⟩, ev, hv⟩ := hm
  by_cases g : foldedB adj n = true
  · obtain ⟨q0, q1⟩ := hz.1 g
    obtain ⟨p0, p1⟩ := hv.1 g
    have er : v0 = z0 := p0.trans q0.symm
    subst er
    exact ⟨v0, _, _, ⟨z1, z2, z3, z4, z5, z6, z7, z8, z9, z10, z11, z12, z13, z14, z15, ez, rfl⟩, ⟨v1, v2, v3, v4, v5, v6, v7, v8, v9, ev, rfl⟩, hS, hK, IN_f (WF_jnA (Nat.le_trans (fb_ct_le _ _) hw.1)) q1 p1, hT⟩
  · obtain ⟨q0, q1, q2, q3, q4, q5, q6, q7⟩ := hz.2 g
    obtain ⟨p0, p1, p2, p3, p4⟩ := hv.2 g
    have er : v0 = z0 := p0.trans q0.symm
    subst er
    have hb' : Lb z12 adj := by rw [show z12 = _ from q5]; exact hb
    have hbm : Mb v8 adj := by rw [show v8 = _ from p3]; exact hb2
    have hcl : LNC adj n (σ.1 1541) (σ.1 1542) (σ.1 1540) z1 z6 z7 z8 z9 (σ.2.2.1 26) (σ.2.2.1 27) (σ.2.2.1 25) z13 z14 z15 := by
      rw [show z1 = _ from q1]
      exact LNC_of hc (Or.inr ⟨q6, q7⟩) (fun _ => q6)
    have hsl : SK adj n (σ.1 2373) z5 (σ.2.2.1 39) := by rw [show z5 = _ from q4]; exact hs
    have hpl : PC adj n (σ.1 2634) z4 (σ.2.2.1 42) := by rw [show z4 = _ from q3]; exact hp
    have hpm : PC adj n (σ.1 3242) v1 (σ.2.2.1 78) := by rw [show v1 = _ from p1]; exact hp2
    exact ⟨v0, _, _, ⟨z1, z2, z3, z4, z5, z6, z7, z8, z9, z10, z11, z12, z13, z14, z15, ez, rfl⟩, ⟨v1, v2, v3, v4, v5, v6, v7, v8, v9, ev, rfl⟩, hS, hK, ⟨n, adj, hw, ⟨q2, hb', hcl, hsl, hpl⟩, p2, hbm, p4, hpm⟩, hT⟩
theorem op_half (σ : St) (h : Inv σ) : ∃ (r : Int32) (σ1 σ2 : St), eL_half σ r σ1 ∧ eM_half σ1 r σ2 ∧ Inv σ2 := by
  obtain ⟨hS, hK, ⟨n, adj, hw, ⟨e1, hb, hc, hs, hp⟩, e2, hb2, hc2, hp2⟩, hT⟩ := h
  have hl : Ok (LN_half (σ.1 1539) (σ.1 769) (σ.1 641) (σ.1 2632) (σ.1 2372) (σ.1 1286) (σ.1 1283) (σ.1 1285) (σ.1 1284) (σ.2.2.1 16) (σ.2.2.1 13) (σ.2.2.1 11) (σ.2.2.1 22) (σ.2.2.1 23) (σ.2.2.1 21)) (fun z => (wholeB adj n = true ∧ sidesB adj n = true → z.1 = nI (halN adj n) ∧ LFr (halA adj n) (halN adj n) z.2.1 z.2.2.2.1 z.2.2.2.2.1 z.2.2.2.2.2.1 z.2.2.2.2.2.2.2.1 z.2.2.2.2.2.2.2.2.2.2.2.2.1) ∧ (¬ (wholeB adj n = true ∧ sidesB adj n = true) → z.1 = -5 ∧ z.2.1 = (σ.1 1539) ∧ z.2.2.2.1 = nI n ∧ z.2.2.2.2.1 = (σ.1 2632) ∧ z.2.2.2.2.2.1 = (σ.1 2372) ∧ z.2.2.2.2.2.2.2.2.2.2.2.2.1 = (σ.2.2.1 11) ∧ z.2.2.2.2.2.2.2.1 = 1 ∧ LW adj n z.2.2.2.2.2.2.1 z.2.2.2.2.2.2.2.2.1 z.2.2.2.2.2.2.2.2.2.1 z.2.2.2.2.2.2.2.2.2.2.2.2.2.1 z.2.2.2.2.2.2.2.2.2.2.2.2.2.2.1 z.2.2.2.2.2.2.2.2.2.2.2.2.2.2.2)) := by rw [e1]; exact LN_half_s hw hb hc.1
  have hm : Ok (M_half (σ.1 3238) (σ.1 3214) (σ.1 3215) (σ.1 3212) (σ.1 3203) (σ.2.2.1 70) (σ.2.2.1 71) (σ.2.2.1 54) (σ.2.2.1 59)) (fun z => (wholeB adj n = true ∧ sidesB adj n = true → z.1 = nI (halN adj n) ∧ MFr (halA adj n) (halN adj n) z.2.1 z.2.2.2.2.1 z.2.2.2.2.2.1 z.2.2.2.2.2.2.2.2.1) ∧ (¬ (wholeB adj n = true ∧ sidesB adj n = true) → z.1 = -5 ∧ z.2.1 = (σ.1 3238) ∧ z.2.2.2.2.2.1 = nI n ∧ z.2.2.2.2.2.2.2.2.1 = (σ.2.2.1 54) ∧ MC adj n z.2.2.1 z.2.2.2.1 z.2.2.2.2.1 z.2.2.2.2.2.2.2.2.2)) := by rw [e2]; exact M_half_s hw hb2 hc2
  obtain ⟨⟨z0, z1, z2, z3, z4, z5, z6, z7, z8, z9, z10, z11, z12, z13, z14, z15⟩, ez, hz⟩ := hl
  obtain ⟨⟨v0, v1, v2, v3, v4, v5, v6, v7, v8, v9⟩, ev, hv⟩ := hm
  by_cases g : wholeB adj n = true ∧ sidesB adj n = true
  · obtain ⟨q0, q1⟩ := hz.1 g
    obtain ⟨p0, p1⟩ := hv.1 g
    have er : v0 = z0 := p0.trans q0.symm
    subst er
    exact ⟨v0, _, _, ⟨z1, z2, z3, z4, z5, z6, z7, z8, z9, z10, z11, z12, z13, z14, z15, ez, rfl⟩, ⟨v1, v2, v3, v4, v5, v6, v7, v8, v9, ev, rfl⟩, hS, hK, IN_f (WF_jnA (Nat.le_trans (fb_ct_le _ _) hw.1)) q1 p1, hT⟩
  · obtain ⟨q0, q1, q2, q3, q4, q5, q6, q7⟩ := hz.2 g
    obtain ⟨p0, p1, p2, p3, p4⟩ := hv.2 g
    have er : v0 = z0 := p0.trans q0.symm
    subst er
    have hb' : Lb z12 adj := by rw [show z12 = _ from q5]; exact hb
    have hbm : Mb v8 adj := by rw [show v8 = _ from p3]; exact hb2
    have hcl : LNC adj n (σ.1 1541) (σ.1 1542) (σ.1 1540) z1 z6 z7 z8 z9 (σ.2.2.1 26) (σ.2.2.1 27) (σ.2.2.1 25) z13 z14 z15 := by
      rw [show z1 = _ from q1]
      exact LNC_of hc (Or.inr ⟨q6, q7⟩) (fun _ => q6)
    have hsl : SK adj n (σ.1 2373) z5 (σ.2.2.1 39) := by rw [show z5 = _ from q4]; exact hs
    have hpl : PC adj n (σ.1 2634) z4 (σ.2.2.1 42) := by rw [show z4 = _ from q3]; exact hp
    have hpm : PC adj n (σ.1 3242) v1 (σ.2.2.1 78) := by rw [show v1 = _ from p1]; exact hp2
    exact ⟨v0, _, _, ⟨z1, z2, z3, z4, z5, z6, z7, z8, z9, z10, z11, z12, z13, z14, z15, ez, rfl⟩, ⟨v1, v2, v3, v4, v5, v6, v7, v8, v9, ev, rfl⟩, hS, hK, ⟨n, adj, hw, ⟨q2, hb', hcl, hsl, hpl⟩, p2, hbm, p4, hpm⟩, hT⟩
theorem op_other (σ : St)  (h : Inv σ) : ∃ (r : Int32) (σ1 σ2 : St), eL_other  σ r σ1 ∧ eM_other  σ1 r σ2 ∧ Inv σ2 := by
  obtain ⟨hS, hK, ⟨n, adj, hw, ⟨e1, hb, hc, hs, hp⟩, e2, hb2, hc2, hp2⟩, hT⟩ := h
  have hl : Ok (LN_other (σ.1 1539) (σ.1 769) (σ.1 641) (σ.1 2632) (σ.1 2372) (σ.1 1283) (σ.2.2.1 13) (σ.2.2.1 11)) (fun z => z.1 = nI (roadsN (othA adj n) n) ∧ LFr (othA adj n) n z.2.1 z.2.2.2.1 z.2.2.2.2.1 z.2.2.2.2.2.1 z.2.2.2.2.2.2.1 z.2.2.2.2.2.2.2.2) := by rw [e1]; exact LN_other_s hw hb
  have hm : Ok (M_other (σ.1 3238) (σ.1 3212) (σ.1 3203) (σ.2.2.1 70) (σ.2.2.1 54)) (fun z => z.1 = nI (roadsN (othA adj n) n) ∧ MFr (othA adj n) n z.2.1 z.2.2.1 z.2.2.2.1 z.2.2.2.2.2) := by rw [e2]; exact M_other_s hw hb2
  obtain ⟨⟨z0, z1, z2, z3, z4, z5, z6, z7, z8⟩, ez, q0, q1⟩ := hl
  obtain ⟨⟨v0, v1, v2, v3, v4, v5⟩, ev, p0, p1⟩ := hm
  have er : v0 = z0 := p0.trans q0.symm
  subst er
  exact ⟨v0, _, _, ⟨z1, z2, z3, z4, z5, z6, z7, z8, ez, rfl⟩, ⟨v1, v2, v3, v4, v5, ev, rfl⟩, hS, hK, IN_f (WF_jnA hw.1) q1 p1, hT⟩
theorem op_twice (σ : St)  (h : Inv σ) : ∃ (r : Int32) (σ1 σ2 : St), eL_twice  σ r σ1 ∧ eM_twice  σ1 r σ2 ∧ Inv σ2 := by
  obtain ⟨hS, hK, ⟨n, adj, hw, ⟨e1, hb, hc, hs, hp⟩, e2, hb2, hc2, hp2⟩, hT⟩ := h
  by_cases g : 2 * n ≤ 32
  rotate_left
  · have h1 : LN_twice (σ.1 1539) (σ.1 769) (σ.1 641) (σ.1 2632) (σ.1 2372) (σ.1 1283) (σ.2.2.1 13) (σ.2.2.1 11) = some (-2, (σ.1 1539), (σ.1 769), (σ.1 641), (σ.1 2632), (σ.1 2372), (σ.1 1283), (σ.2.2.1 13), (σ.2.2.1 11)) := by rw [e1]; exact LN_twice_n hw.1 g
    have h2 : M_twice (σ.1 3238) (σ.1 3212) (σ.1 3203) (σ.2.2.1 70) (σ.2.2.1 54) = some (-2, (σ.1 3238), (σ.1 3212), (σ.1 3203), (σ.2.2.1 70), (σ.2.2.1 54)) := by rw [e2]; exact M_twice_n hw.1 g
    exact ⟨_, _, _, ⟨_, _, _, _, _, _, _, _, h1, rfl⟩, ⟨_, _, _, _, _, h2, rfl⟩, hS, hK, ⟨n, adj, hw, ⟨e1, hb, hc, hs, hp⟩, e2, hb2, hc2, hp2⟩, hT⟩
  have hl : Ok (LN_twice (σ.1 1539) (σ.1 769) (σ.1 641) (σ.1 2632) (σ.1 2372) (σ.1 1283) (σ.2.2.1 13) (σ.2.2.1 11)) (fun z => z.1 = nI (2 * n) ∧ LFr (twiA adj n) (2 * n) z.2.1 z.2.2.2.1 z.2.2.2.2.1 z.2.2.2.2.2.1 z.2.2.2.2.2.2.1 z.2.2.2.2.2.2.2.2) := by rw [e1]; exact LN_twice_s hw hb g
  have hm : Ok (M_twice (σ.1 3238) (σ.1 3212) (σ.1 3203) (σ.2.2.1 70) (σ.2.2.1 54)) (fun z => z.1 = nI (2 * n) ∧ MFr (twiA adj n) (2 * n) z.2.1 z.2.2.1 z.2.2.2.1 z.2.2.2.2.2) := by rw [e2]; exact M_twice_s hw hb2 g
  obtain ⟨⟨z0, z1, z2, z3, z4, z5, z6, z7, z8⟩, ez, q0, q1⟩ := hl
  obtain ⟨⟨v0, v1, v2, v3, v4, v5⟩, ev, p0, p1⟩ := hm
  have er : v0 = z0 := p0.trans q0.symm
  subst er
  exact ⟨v0, _, _, ⟨z1, z2, z3, z4, z5, z6, z7, z8, ez, rfl⟩, ⟨v1, v2, v3, v4, v5, ev, rfl⟩, hS, hK, IN_f (WF_jnA g) q1 p1, hT⟩
theorem op_lines (σ : St)  (h : Inv σ) : ∃ (r : Int32) (σ1 σ2 : St), eL_lines  σ r σ1 ∧ eM_lines  σ1 r σ2 ∧ Inv σ2 := by
  obtain ⟨hS, hK, ⟨n, adj, hw, ⟨e1, hb, hc, hs, hp⟩, e2, hb2, hc2, hp2⟩, hT⟩ := h
  by_cases g : roadsN adj n ≤ 32
  rotate_left
  · have h1 : LN_lines (σ.1 1539) (σ.1 769) (σ.1 641) (σ.1 2632) (σ.1 2372) (σ.1 1283) (σ.2.2.1 16) (σ.2.2.1 13) (σ.2.2.1 11) (σ.2.2.1 17) = some (-2, (σ.1 1539), (σ.1 769), (σ.1 641), (σ.1 2632), (σ.1 2372), (σ.1 1283), (σ.2.2.1 16), (σ.2.2.1 13), (σ.2.2.1 11), (σ.2.2.1 17)) := by rw [e1]; exact LN_lines_n hw hb g
    have h2 : M_lines (σ.1 3238) (σ.1 3212) (σ.1 3203) (σ.2.2.1 72) (σ.2.2.1 73) (σ.2.2.1 70) (σ.2.2.1 54) = some (-2, (σ.1 3238), (σ.1 3212), (σ.1 3203), (σ.2.2.1 72), (σ.2.2.1 73), (σ.2.2.1 70), (σ.2.2.1 54)) := by rw [e2]; exact M_lines_n hw hb2 g
    exact ⟨_, _, _, ⟨_, _, _, _, _, _, _, _, _, _, h1, rfl⟩, ⟨_, _, _, _, _, _, _, h2, rfl⟩, hS, hK, ⟨n, adj, hw, ⟨e1, hb, hc, hs, hp⟩, e2, hb2, hc2, hp2⟩, hT⟩
  have hl : Ok (LN_lines (σ.1 1539) (σ.1 769) (σ.1 641) (σ.1 2632) (σ.1 2372) (σ.1 1283) (σ.2.2.1 16) (σ.2.2.1 13) (σ.2.2.1 11) (σ.2.2.1 17)) (fun z => z.1 = nI (roadsN adj n) ∧ LFr (linA adj n) (roadsN adj n) z.2.1 z.2.2.2.1 z.2.2.2.2.1 z.2.2.2.2.2.1 z.2.2.2.2.2.2.1 z.2.2.2.2.2.2.2.2.2.1) := by rw [e1]; exact LN_lines_s hw hb g
  have hm : Ok (M_lines (σ.1 3238) (σ.1 3212) (σ.1 3203) (σ.2.2.1 72) (σ.2.2.1 73) (σ.2.2.1 70) (σ.2.2.1 54)) (fun z => z.1 = nI (roadsN adj n) ∧ MFr (linA adj n) (roadsN adj n) z.2.1 z.2.2.1 z.2.2.2.1 z.2.2.2.2.2.2.2) := by rw [e2]; exact M_lines_s hw hb2 g
  obtain ⟨⟨z0, z1, z2, z3, z4, z5, z6, z7, z8, z9, z10⟩, ez, q0, q1⟩ := hl
  obtain ⟨⟨v0, v1, v2, v3, v4, v5, v6, v7⟩, ev, p0, p1⟩ := hm
  have er : v0 = z0 := p0.trans q0.symm
  subst er
  exact ⟨v0, _, _, ⟨z1, z2, z3, z4, z5, z6, z7, z8, z9, z10, ez, rfl⟩, ⟨v1, v2, v3, v4, v5, v6, v7, ev, rfl⟩, hS, hK, IN_f (WF_jnA g) q1 p1, hT⟩
theorem op_power (σ : St) (x1 : Int32) (h : Inv σ) : ∃ (r : Int32) (σ1 σ2 : St), eL_power x1 σ r σ1 ∧ eM_power x1 σ1 r σ2 ∧ Inv σ2 := by
  obtain ⟨hS, hK, ⟨n, adj, hw, ⟨e1, hb, hc, hs, hp⟩, e2, hb2, hc2, hp2⟩, hT⟩ := h
  by_cases g : 1 ≤ x1
  rotate_left
  · have h1 : LN_power x1 (σ.1 1539) (σ.1 769) (σ.1 641) (σ.1 2632) (σ.1 2372) (σ.1 1286) (σ.1 1283) (σ.1 1285) (σ.1 1284) (σ.2.2.1 13) (σ.2.2.1 11) (σ.2.2.1 22) (σ.2.2.1 23) (σ.2.2.1 21) = some (-1, (σ.1 1539), (σ.1 769), (σ.1 641), (σ.1 2632), (σ.1 2372), (σ.1 1286), (σ.1 1283), (σ.1 1285), (σ.1 1284), (σ.2.2.1 13), (σ.2.2.1 11), (σ.2.2.1 22), (σ.2.2.1 23), (σ.2.2.1 21)) := by exact LN_power_n g
    have h2 : M_power x1 (σ.1 3238) (σ.1 3214) (σ.1 3215) (σ.1 3212) (σ.1 3203) (σ.2.2.1 70) (σ.2.2.1 54) (σ.2.2.1 59) = some (-1, (σ.1 3238), (σ.1 3214), (σ.1 3215), (σ.1 3212), (σ.1 3203), (σ.2.2.1 70), (σ.2.2.1 54), (σ.2.2.1 59)) := by exact M_power_n g
    exact ⟨_, _, _, ⟨_, _, _, _, _, _, _, _, _, _, _, _, _, _, h1, rfl⟩, ⟨_, _, _, _, _, _, _, _, h2, rfl⟩, hS, hK, ⟨n, adj, hw, ⟨e1, hb, hc, hs, hp⟩, e2, hb2, hc2, hp2⟩, hT⟩
  obtain ⟨k, hk, ek⟩ := nI_of (x := x1) (fun h => by rw [Int32.lt_iff_toInt_lt] at h; rw [Int32.le_iff_toInt_le] at g; have o : (1 : Int32).toInt = 1 := rfl; have z : (0 : Int32).toInt = 0 := rfl; omega)
  have hk1 : 1 ≤ k := (nI_leI (a := 1) (by decide) hk).mp (by rw [ek] at g; exact g)
  have hl : Ok (LN_power x1 (σ.1 1539) (σ.1 769) (σ.1 641) (σ.1 2632) (σ.1 2372) (σ.1 1286) (σ.1 1283) (σ.1 1285) (σ.1 1284) (σ.2.2.1 13) (σ.2.2.1 11) (σ.2.2.1 22) (σ.2.2.1 23) (σ.2.2.1 21)) (fun z => z.1 = nI (roadsN (powA adj n k) n) ∧ LFr (powA adj n k) n z.2.1 z.2.2.2.1 z.2.2.2.2.1 z.2.2.2.2.2.1 z.2.2.2.2.2.2.2.1 z.2.2.2.2.2.2.2.2.2.2.2.1) := by rw [ek, e1]; exact LN_power_s hw hb hc.1 hk1 hk
  have hm : Ok (M_power x1 (σ.1 3238) (σ.1 3214) (σ.1 3215) (σ.1 3212) (σ.1 3203) (σ.2.2.1 70) (σ.2.2.1 54) (σ.2.2.1 59)) (fun z => z.1 = nI (roadsN (powA adj n k) n) ∧ MFr (powA adj n k) n z.2.1 z.2.2.2.2.1 z.2.2.2.2.2.1 z.2.2.2.2.2.2.2.1) := by rw [ek, e2]; exact M_power_s hw hb2 hc2 hk1 hk
  obtain ⟨⟨z0, z1, z2, z3, z4, z5, z6, z7, z8, z9, z10, z11, z12, z13, z14⟩, ez, q0, q1⟩ := hl
  obtain ⟨⟨v0, v1, v2, v3, v4, v5, v6, v7, v8⟩, ev, p0, p1⟩ := hm
  have er : v0 = z0 := p0.trans q0.symm
  subst er
  exact ⟨v0, _, _, ⟨z1, z2, z3, z4, z5, z6, z7, z8, z9, z10, z11, z12, z13, z14, ez, rfl⟩, ⟨v1, v2, v3, v4, v5, v6, v7, v8, ev, rfl⟩, hS, hK, IN_f (WF_jnA hw.1) q1 p1, hT⟩
theorem op_keep (σ : St) (h : Inv σ) : ∃ (r : Int32) (σ1 σ2 : St), eL_keep σ r σ1 ∧ eM_keep σ1 r σ2 ∧ Inv σ2 := by
  obtain ⟨hS, hK, ⟨n, adj, hw, ⟨e1, hb, hc, hs, hp⟩, e2, hb2, hc2, hp2⟩, hT⟩ := h
  have hl : Ok (LN_keep (σ.1 12) (σ.1 641) (σ.1 897) (σ.2.2.1 11) (σ.2.2.1 15)) (fun z => z.1 = 1 ∧ z.2.1 = 1 ∧ z.2.2.1 = σ.1 641 ∧ ∀ j, j < 32 → z.2.2.2 j = σ.2.2.1 11 j) := by
    unfold LN_keep
    exact ok_b (Net_copyFrom_s _ _ _ _) (fun z hz => ok_s ⟨rfl, rfl, hz.1, hz.2⟩)
  obtain ⟨⟨z0, z1, z2, z3⟩, ez, q0, q1, q2, q3⟩ := hl
  have q0 : z0 = 1 := q0
  subst q0
  have h2 := M_keep_s (σ.1 3205) (σ.1 3206) (σ.1 3203) (σ.2.2.1 55) (σ.2.2.1 54) (Mb_isb hb2)
  refine ⟨1, _, _, ⟨z1, z2, z3, ez, rfl⟩, ⟨_, _, _, h2, rfl⟩, hS, ?_, ⟨n, adj, hw, ⟨e1, hb, hc, hs, hp⟩, e2, hb2, hc2, hp2⟩, hT⟩
  exact Or.inr ⟨q1, rfl, n, adj, hw, (show z2 = _ from q2).trans e1, Lb_of hb q3, e2, Mb_of hb2 (fun j hj => fa_fill_in hj)⟩
theorem op_back (σ : St) (h : Inv σ) : ∃ (r : Int32) (σ1 σ2 : St), eL_back σ r σ1 ∧ eM_back σ1 r σ2 ∧ Inv σ2 := by
  obtain ⟨hS, hK, hN, hT⟩ := h
  have hK0 := hK
  rcases hK with ⟨k1, k2⟩ | ⟨k1, k2, m, A, hw, k3, k4, k5, k6⟩
  · have h1 : LN_back (σ.1 12) (σ.1 1539) (σ.1 641) (σ.1 2632) (σ.1 2372) (σ.1 897) (σ.1 1283) (σ.2.2.1 11) (σ.2.2.1 15) = some (-5, σ.1 1539, σ.1 641, σ.1 2632, σ.1 2372, σ.1 1283, σ.2.2.1 11) := by unfold LN_back; rw [if_pos k1]
    have h2 : M_back (σ.1 3238) (σ.1 3205) (σ.1 3212) (σ.1 3206) (σ.1 3203) (σ.2.2.1 55) (σ.2.2.1 70) (σ.2.2.1 54) = some (-5, σ.1 3238, σ.1 3212, σ.1 3203, σ.2.2.1 70, σ.2.2.1 54) := by unfold M_back; rw [if_pos k2]
    exact ⟨-5, _, _, ⟨_, _, _, _, _, _, h1, rfl⟩, ⟨_, _, _, _, _, h2, rfl⟩, hS, hK0, hN, hT⟩
  · have hl : Ok (LN_back (σ.1 12) (σ.1 1539) (σ.1 641) (σ.1 2632) (σ.1 2372) (σ.1 897) (σ.1 1283) (σ.2.2.1 11) (σ.2.2.1 15)) (fun z => z.1 = 1 ∧ LFr A m z.2.1 z.2.2.1 z.2.2.2.1 z.2.2.2.2.1 z.2.2.2.2.2.1 z.2.2.2.2.2.2) := by
      unfold LN_back
      refine ok_f (by rw [k1]; decide) (ok_b (Net_copyFrom_s _ _ _ _) (fun z hz => ok_e (LN_forget_s _ _ _ _) (ok_s ⟨rfl, rfl, hz.1.trans k3, rfl, rfl, rfl, Lb_of k4 hz.2⟩)))
    have hm : Ok (M_back (σ.1 3238) (σ.1 3205) (σ.1 3212) (σ.1 3206) (σ.1 3203) (σ.2.2.1 55) (σ.2.2.1 70) (σ.2.2.1 54)) (fun z => z.1 = 1 ∧ MFr A m z.2.1 z.2.2.1 z.2.2.2.1 z.2.2.2.2.2) := by
      rw [k2]
      exact ok_m (M_back_s _ _ _ _ _ _ _ (Mb_isb k6)) (fun z hz => ⟨hz.1, hz.2.1, hz.2.2.1, hz.2.2.2.1.trans k5, Mb_of k6 hz.2.2.2.2⟩)
    obtain ⟨⟨z0, z1, z2, z3, z4, z5, z6⟩, ez, q0, q1⟩ := hl
    obtain ⟨⟨v0, v1, v2, v3, v4, v5⟩, ev, p0, p1⟩ := hm
    have er : v0 = z0 := p0.trans q0.symm
    subst er
    exact ⟨v0, _, _, ⟨z1, z2, z3, z4, z5, z6, ez, rfl⟩, ⟨v1, v2, v3, v4, v5, ev, rfl⟩, hS, hK0, IN_f hw q1 p1, hT⟩
