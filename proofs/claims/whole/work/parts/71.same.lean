
/-! the calls that leave the net as it is -/
theorem ok_and {α : Type} {o : Option α} {P Q : α → Prop} (h : Ok o P) (h2 : Ok o Q) : Ok o (fun z => P z ∧ Q z) := by
  obtain ⟨r, e, hp⟩ := h
  obtain ⟨r2, e2, hq⟩ := h2
  rw [e] at e2
  cases e2
  exact ⟨r, e, hp, hq⟩
theorem LNC_of {adj : Nat → Nat → Bool} {n : Nat} {cf ct ho lr f rd sz wh f2 rd2 sz2 wh2 : Int32} {a b c ly re st ly2 re2 st2 : Nat → Int32} (h : LNC adj n cf ct ho lr f rd sz wh a b c ly re st) (h2 : LC adj n f2 rd2 sz2 wh2 ly2 re2 st2) (hr : rd = 1 → rd2 = 1) : LNC adj n cf ct ho lr f2 rd2 sz2 wh2 a b c ly2 re2 st2 := by
  refine ⟨h2, ?_⟩
  rcases h.2 with e | ⟨e, e2, e3⟩
  · exact Or.inl e
  · exact Or.inr ⟨e, hr e2, e3⟩
theorem LN_way_r {n : Nat} {x y : Int32} {near ly re st : Nat → Int32} {a0 b0 c0 d0 : Int32} {adj : Nat → Nat → Bool} (hw : WF n adj) (hb : Lb near adj) (hc : LC adj n a0 b0 c0 d0 ly re st) : Ok (LN_way x y (nI n) a0 b0 c0 d0 near ly re st) (fun z => b0 = 1 → z.2.2.1 = 1) := by
  have hn := hw.1
  unfold LN_way LN_way_n22 LN_way_n48
  refine ok_e (Net_has_s (by omega)) ?_
  cases hx : inb x n
  · exact ok_t (by decide) (ok_s (fun h => h))
  · refine ok_f (by decide) (ok_e (Net_has_s (by omega)) ?_)
    cases hy : inb y n
    · exact ok_t (by decide) (ok_s (fun h => h))
    · refine ok_f (by decide) (ok_b (LN_measure_c hw hb hc) (fun z hz => ?_))
      obtain ⟨p, hp, rfl⟩ := inb_of hx (by omega)
      obtain ⟨q, hq, rfl⟩ := inb_of hy (by omega)
      exact ok_e (Wy_between_s (by omega) (by omega) _) (ok_i (fun _ => ok_s (fun _ => hz.1)) (fun _ => ok_s (fun _ => hz.1)))
theorem LN_thirds_r {n : Nat} {x y j l : Int32} {near ly re st : Nat → Int32} {a0 b0 c0 d0 : Int32} {adj : Nat → Nat → Bool} (hw : WF n adj) (hb : Lb near adj) (hc : LC adj n a0 b0 c0 d0 ly re st) : Ok (LN_thirds x y j l (nI n) a0 b0 c0 d0 near ly re st) (fun z => b0 = 1 → z.2.2.1 = 1) := by
  have hn := hw.1
  unfold LN_thirds LN_thirds_n31
  refine ok_e (Net_has_s (by omega)) ?_
  cases hx : inb x n
  · exact ok_t (by decide) (ok_s (fun h => h))
  · refine ok_f (by decide) (ok_e (Net_has_s (by omega)) ?_)
    cases hy : inb y n
    · exact ok_t (by decide) (ok_s (fun h => h))
    · refine ok_f (by decide) (ok_i (fun c1 => ok_s (fun h => h)) (fun c1 => ok_i (fun c2 => ?_) (fun c2 => ok_s (fun h => h))))
      obtain ⟨j', hj, rfl⟩ := nI_of c1
      obtain ⟨l', hl, rfl⟩ := nI_of (x := l) (fun g => by rw [Int32.lt_iff_toInt_lt] at g; rw [Int32.le_iff_toInt_le] at c2; omega)
      obtain ⟨p, hp, rfl⟩ := inb_of hx (by omega)
      obtain ⟨q, hq, rfl⟩ := inb_of hy (by omega)
      exact ok_b (LN_measure_c hw hb hc) (fun z hz => ok_b (Wy_postsAt_s hw hp hj (hz.2.2.1 p hp)) (fun m1 hm1 => ok_b (Wy_postsAt_s hw hq hl (hz.2.2.1 q hq)) (fun m2 hm2 => ok_e (JI_bitCount_s _) (ok_s (fun _ => hz.1)))))
theorem op_joined (σ : St) (x1 : Int32) (x2 : Int32) (h : Inv σ) : ∃ (r : Int32) (σ1 σ2 : St), eL_joined x1 x2 σ r σ1 ∧ eM_joined x1 x2 σ1 r σ2 ∧ Inv σ2 := by
  have hI := h
  obtain ⟨hS, hK, ⟨n, adj, hw, ⟨e1, hb, hc, hs, hp⟩, e2, hb2, hc2, hp2⟩, hT⟩ := h
  have h1 := LN_joined_s (x := x1) (y := x2) hw.1 hb
  have h2 := M_joined_s (x := x1) (y := x2) hw.1 hb2
  rw [← e1] at h1
  rw [← e2] at h2
  exact ⟨_, σ, σ, ⟨h1, rfl⟩, ⟨h2, rfl⟩, hI⟩
theorem op_many (σ : St) (x1 : Int32) (h : Inv σ) : ∃ (r : Int32) (σ1 σ2 : St), eL_many x1 σ r σ1 ∧ eM_many x1 σ1 r σ2 ∧ Inv σ2 := by
  obtain ⟨hS, hK, ⟨n, adj, hw, ⟨e1, hb, hc, hs, hp⟩, e2, hb2, hc2, hp2⟩, hT⟩ := h
  have hl : Ok (LN_many x1 (σ.1 1541) (σ.1 1542) (σ.1 1540) (σ.1 1539) (σ.1 641) (σ.1 1286) (σ.1 1283) (σ.1 1285) (σ.1 1284) (σ.2.2.1 26) (σ.2.2.1 27) (σ.2.2.1 25) (σ.2.2.1 11) (σ.2.2.1 22) (σ.2.2.1 23) (σ.2.2.1 21)) (fun z => z.1 = spMany adj n x1 ∧ LNC adj n z.2.1 z.2.2.1 z.2.2.2.1 z.2.2.2.2.1 z.2.2.2.2.2.1 z.2.2.2.2.2.2.1 z.2.2.2.2.2.2.2.1 z.2.2.2.2.2.2.2.2.1 z.2.2.2.2.2.2.2.2.2.1 z.2.2.2.2.2.2.2.2.2.2.1 z.2.2.2.2.2.2.2.2.2.2.2.1 z.2.2.2.2.2.2.2.2.2.2.2.2.1 z.2.2.2.2.2.2.2.2.2.2.2.2.2.1 z.2.2.2.2.2.2.2.2.2.2.2.2.2.2) := by rw [e1]; exact LN_many_s hw hb hc
  have hm : Ok (M_many x1 (σ.1 3221) (σ.1 3222) (σ.1 3214) (σ.1 3215) (σ.1 3212) (σ.1 3203) (σ.2.2.1 64) (σ.2.2.1 60) (σ.2.2.1 54) (σ.2.2.1 62) (σ.2.2.1 63) (σ.2.2.1 61) (σ.2.2.1 59)) (fun z => z.1 = spMany adj n x1 ∧ MC adj n z.2.2.2.1 z.2.2.2.2.1 z.2.2.2.2.2.1 z.2.2.2.2.2.2.2.2.2.2.2) := by rw [e2]; exact M_many_s hw hb2 hc2
  obtain ⟨⟨z0, z1, z2, z3, z4, z5, z6, z7, z8, z9, z10, z11, z12, z13, z14⟩, ez, hz⟩ := hl
  obtain ⟨⟨v0, v1, v2, v3, v4, v5, v6, v7, v8, v9, v10, v11⟩, ev, hv⟩ := hm
  have er : v0 = z0 := hv.1.trans hz.1.symm
  subst er
  refine ⟨v0, _, _, ⟨z1, z2, z3, z4, z5, z6, z7, z8, z9, z10, z11, z12, z13, z14, ez, rfl⟩, ⟨v1, v2, v3, v4, v5, v6, v7, v8, v9, v10, v11, ev, rfl⟩, ?_⟩
  exact ⟨hS, hK, ⟨n, adj, hw, ⟨e1, hb, hz.2, hs, hp⟩, e2, hb2, hv.2, hp2⟩, hT⟩
theorem op_clash (σ : St) (x1 : Int32) (h : Inv σ) : ∃ (r : Int32) (σ1 σ2 : St), eL_clash x1 σ r σ1 ∧ eM_clash x1 σ1 r σ2 ∧ Inv σ2 := by
  obtain ⟨hS, hK, ⟨n, adj, hw, ⟨e1, hb, hc, hs, hp⟩, e2, hb2, hc2, hp2⟩, hT⟩ := h
  have hl : Ok (LN_clash x1 (σ.1 1541) (σ.1 1542) (σ.1 1540) (σ.1 1539) (σ.1 641) (σ.1 1286) (σ.1 1283) (σ.1 1285) (σ.1 1284) (σ.2.2.1 26) (σ.2.2.1 27) (σ.2.2.1 25) (σ.2.2.1 11) (σ.2.2.1 22) (σ.2.2.1 23) (σ.2.2.1 21)) (fun z => z.1 = spClash adj n x1 ∧ LNC adj n z.2.1 z.2.2.1 z.2.2.2.1 z.2.2.2.2.1 z.2.2.2.2.2.1 z.2.2.2.2.2.2.1 z.2.2.2.2.2.2.2.1 z.2.2.2.2.2.2.2.2.1 z.2.2.2.2.2.2.2.2.2.1 z.2.2.2.2.2.2.2.2.2.2.1 z.2.2.2.2.2.2.2.2.2.2.2.1 z.2.2.2.2.2.2.2.2.2.2.2.2.1 z.2.2.2.2.2.2.2.2.2.2.2.2.2.1 z.2.2.2.2.2.2.2.2.2.2.2.2.2.2) := by rw [e1]; exact LN_clash_s hw hb hc
  have hm : Ok (M_clash x1 (σ.1 3221) (σ.1 3222) (σ.1 3214) (σ.1 3215) (σ.1 3212) (σ.1 3203) (σ.2.2.1 64) (σ.2.2.1 54) (σ.2.2.1 62) (σ.2.2.1 63) (σ.2.2.1 61) (σ.2.2.1 59)) (fun z => z.1 = spClash adj n x1 ∧ MC adj n z.2.2.2.1 z.2.2.2.2.1 z.2.2.2.2.2.1 z.2.2.2.2.2.2.2.2.2.2) := by rw [e2]; exact M_clash_s hw hb2 hc2
  obtain ⟨⟨z0, z1, z2, z3, z4, z5, z6, z7, z8, z9, z10, z11, z12, z13, z14⟩, ez, hz⟩ := hl
  obtain ⟨⟨v0, v1, v2, v3, v4, v5, v6, v7, v8, v9, v10⟩, ev, hv⟩ := hm
  have er : v0 = z0 := hv.1.trans hz.1.symm
  subst er
  refine ⟨v0, _, _, ⟨z1, z2, z3, z4, z5, z6, z7, z8, z9, z10, z11, z12, z13, z14, ez, rfl⟩, ⟨v1, v2, v3, v4, v5, v6, v7, v8, v9, v10, ev, rfl⟩, ?_⟩
  exact ⟨hS, hK, ⟨n, adj, hw, ⟨e1, hb, hz.2, hs, hp⟩, e2, hb2, hv.2, hp2⟩, hT⟩
theorem op_table (σ : St) (x1 : Int32) (x2 : Int32) (h : Inv σ) : ∃ (r : Int32) (σ1 σ2 : St), eL_table x1 x2 σ r σ1 ∧ eM_table x1 x2 σ1 r σ2 ∧ Inv σ2 := by
  obtain ⟨hS, hK, ⟨n, adj, hw, ⟨e1, hb, hc, hs, hp⟩, e2, hb2, hc2, hp2⟩, hT⟩ := h
  have hl : Ok (LN_table x1 x2 (σ.1 1541) (σ.1 1542) (σ.1 1540) (σ.1 1539) (σ.1 641) (σ.1 1286) (σ.1 1283) (σ.1 1285) (σ.1 1284) (σ.2.2.1 26) (σ.2.2.1 27) (σ.2.2.1 25) (σ.2.2.1 11) (σ.2.2.1 22) (σ.2.2.1 23) (σ.2.2.1 21)) (fun z => z.1 = spTable adj n x1 x2 ∧ LNC adj n z.2.1 z.2.2.1 z.2.2.2.1 z.2.2.2.2.1 z.2.2.2.2.2.1 z.2.2.2.2.2.2.1 z.2.2.2.2.2.2.2.1 z.2.2.2.2.2.2.2.2.1 z.2.2.2.2.2.2.2.2.2.1 z.2.2.2.2.2.2.2.2.2.2.1 z.2.2.2.2.2.2.2.2.2.2.2.1 z.2.2.2.2.2.2.2.2.2.2.2.2.1 z.2.2.2.2.2.2.2.2.2.2.2.2.2.1 z.2.2.2.2.2.2.2.2.2.2.2.2.2.2) := by rw [e1]; exact LN_table_s hw hb hc
  have hm : Ok (M_table x1 x2 (σ.1 3221) (σ.1 3222) (σ.1 3214) (σ.1 3215) (σ.1 3212) (σ.1 3203) (σ.2.2.1 64) (σ.2.2.1 54) (σ.2.2.1 62) (σ.2.2.1 63) (σ.2.2.1 61) (σ.2.2.1 59)) (fun z => z.1 = spTable adj n x1 x2 ∧ MC adj n z.2.2.2.1 z.2.2.2.2.1 z.2.2.2.2.2.1 z.2.2.2.2.2.2.2.2.2.2) := by rw [e2]; exact M_table_s hw hb2 hc2
  obtain ⟨⟨z0, z1, z2, z3, z4, z5, z6, z7, z8, z9, z10, z11, z12, z13, z14⟩, ez, hz⟩ := hl
  obtain ⟨⟨v0, v1, v2, v3, v4, v5, v6, v7, v8, v9, v10⟩, ev, hv⟩ := hm
  have er : v0 = z0 := hv.1.trans hz.1.symm
  subst er
  refine ⟨v0, _, _, ⟨z1, z2, z3, z4, z5, z6, z7, z8, z9, z10, z11, z12, z13, z14, ez, rfl⟩, ⟨v1, v2, v3, v4, v5, v6, v7, v8, v9, v10, ev, rfl⟩, ?_⟩
  exact ⟨hS, hK, ⟨n, adj, hw, ⟨e1, hb, hz.2, hs, hp⟩, e2, hb2, hv.2, hp2⟩, hT⟩
theorem op_way (σ : St) (x1 : Int32) (x2 : Int32) (h : Inv σ) : ∃ (r : Int32) (σ1 σ2 : St), eL_way x1 x2 σ r σ1 ∧ eM_way x1 x2 σ1 r σ2 ∧ Inv σ2 := by
  obtain ⟨hS, hK, ⟨n, adj, hw, ⟨e1, hb, hc, hs, hp⟩, e2, hb2, hc2, hp2⟩, hT⟩ := h
  have hl : Ok (LN_way x1 x2 (σ.1 641) (σ.1 1286) (σ.1 1283) (σ.1 1285) (σ.1 1284) (σ.2.2.1 11) (σ.2.2.1 22) (σ.2.2.1 23) (σ.2.2.1 21)) (fun z => (z.1 = spWay adj n x1 x2 ∧ LC adj n z.2.1 z.2.2.1 z.2.2.2.1 z.2.2.2.2.1 z.2.2.2.2.2.1 z.2.2.2.2.2.2.1 z.2.2.2.2.2.2.2) ∧ ((σ.1 1283) = 1 → z.2.2.1 = 1)) := by rw [e1]; exact ok_and (LN_way_s hw hb hc.1) (LN_way_r hw hb hc.1)
  have hm : Ok (M_way x1 x2 (σ.1 3214) (σ.1 3215) (σ.1 3212) (σ.1 3203) (σ.2.2.1 54) (σ.2.2.1 59)) (fun z => z.1 = spWay adj n x1 x2 ∧ MC adj n z.2.1 z.2.2.1 z.2.2.2.1 z.2.2.2.2) := by rw [e2]; exact M_way_s hw hb2 hc2
  obtain ⟨⟨z0, z1, z2, z3, z4, z5, z6, z7⟩, ez, hz⟩ := hl
  obtain ⟨⟨v0, v1, v2, v3, v4⟩, ev, hv⟩ := hm
  have er : v0 = z0 := hv.1.trans hz.1.1.symm
  subst er
  refine ⟨v0, _, _, ⟨z1, z2, z3, z4, z5, z6, z7, ez, rfl⟩, ⟨v1, v2, v3, v4, ev, rfl⟩, ?_⟩
  exact ⟨hS, hK, ⟨n, adj, hw, ⟨e1, hb, LNC_of hc hz.1.2 hz.2, hs, hp⟩, e2, hb2, hv.2, hp2⟩, hT⟩
theorem op_thirds (σ : St) (x1 : Int32) (x2 : Int32) (x3 : Int32) (x4 : Int32) (h : Inv σ) : ∃ (r : Int32) (σ1 σ2 : St), eL_thirds x1 x2 x3 x4 σ r σ1 ∧ eM_thirds x1 x2 x3 x4 σ1 r σ2 ∧ Inv σ2 := by
  obtain ⟨hS, hK, ⟨n, adj, hw, ⟨e1, hb, hc, hs, hp⟩, e2, hb2, hc2, hp2⟩, hT⟩ := h
  have hl : Ok (LN_thirds x1 x2 x3 x4 (σ.1 641) (σ.1 1286) (σ.1 1283) (σ.1 1285) (σ.1 1284) (σ.2.2.1 11) (σ.2.2.1 22) (σ.2.2.1 23) (σ.2.2.1 21)) (fun z => (z.1 = spThirds adj n x1 x2 x3 x4 ∧ LC adj n z.2.1 z.2.2.1 z.2.2.2.1 z.2.2.2.2.1 z.2.2.2.2.2.1 z.2.2.2.2.2.2.1 z.2.2.2.2.2.2.2) ∧ ((σ.1 1283) = 1 → z.2.2.1 = 1)) := by rw [e1]; exact ok_and (LN_thirds_s hw hb hc.1) (LN_thirds_r hw hb hc.1)
  have hm : Ok (M_thirds x1 x2 x3 x4 (σ.1 3214) (σ.1 3215) (σ.1 3212) (σ.1 3203) (σ.2.2.1 54) (σ.2.2.1 59)) (fun z => z.1 = spThirds adj n x1 x2 x3 x4 ∧ MC adj n z.2.1 z.2.2.1 z.2.2.2.1 z.2.2.2.2) := by rw [e2]; exact M_thirds_s hw hb2 hc2
  obtain ⟨⟨z0, z1, z2, z3, z4, z5, z6, z7⟩, ez, hz⟩ := hl
  obtain ⟨⟨v0, v1, v2, v3, v4⟩, ev, hv⟩ := hm
  have er : v0 = z0 := hv.1.trans hz.1.1.symm
  subst er
  refine ⟨v0, _, _, ⟨z1, z2, z3, z4, z5, z6, z7, ez, rfl⟩, ⟨v1, v2, v3, v4, ev, rfl⟩, ?_⟩
  exact ⟨hS, hK, ⟨n, adj, hw, ⟨e1, hb, LNC_of hc hz.1.2 hz.2, hs, hp⟩, e2, hb2, hv.2, hp2⟩, hT⟩
theorem op_perfect (σ : St) (x1 : Int32) (h : Inv σ) : ∃ (r : Int32) (σ1 σ2 : St), eL_perfect x1 σ r σ1 ∧ eM_perfect x1 σ1 r σ2 ∧ Inv σ2 := by
  obtain ⟨hS, hK, ⟨n, adj, hw, ⟨e1, hb, hc, hs, hp⟩, e2, hb2, hc2, hp2⟩, hT⟩ := h
  have hl : Ok (LN_perfect x1 (σ.1 641) (σ.1 2373) (σ.1 2372) (σ.1 2371) (σ.1 1286) (σ.1 1283) (σ.1 1285) (σ.1 1284) (σ.2.2.1 11) (σ.2.2.1 38) (σ.2.2.1 39) (σ.2.2.1 40) (σ.2.2.1 22) (σ.2.2.1 23) (σ.2.2.1 21)) (fun z => z.1 = spPerf adj n x1 ∧ SK adj n z.2.1 z.2.2.1 z.2.2.2.2.2.2.2.2.2.1 ∧ LC adj n z.2.2.2.2.1 z.2.2.2.2.2.1 z.2.2.2.2.2.2.1 z.2.2.2.2.2.2.2.1 z.2.2.2.2.2.2.2.2.2.2.2.1 z.2.2.2.2.2.2.2.2.2.2.2.2.1 z.2.2.2.2.2.2.2.2.2.2.2.2.2 ∧ ((σ.1 1283) = 1 → z.2.2.2.2.2.1 = 1) ∧ (0 ≤ x1 ∧ x1 ≤ 6 → ¬ n = 0 → hpO (hpR adj n x1.toNatClampNeg) z.1 z.2.2.2.2.2.2.2.2.2.1)) := by rw [e1]; exact LN_perfect_s hw hb hc.1 hs
  have hm : Ok (M_perfect x1 (σ.1 3214) (σ.1 3215) (σ.1 3212) (σ.1 3203) (σ.1 3235) (σ.2.2.1 77) (σ.2.2.1 76) (σ.2.2.1 54) (σ.2.2.1 74) (σ.2.2.1 75) (σ.2.2.1 59)) (fun z => z.1 = spPerf adj n x1 ∧ MC adj n z.2.1 z.2.2.1 z.2.2.2.1 z.2.2.2.2.2.2.2.2.2) := by rw [e2]; exact M_perfect_s hw hb2 hc2
  obtain ⟨⟨z0, z1, z2, z3, z4, z5, z6, z7, z8, z9, z10, z11, z12, z13⟩, ez, hz⟩ := hl
  obtain ⟨⟨v0, v1, v2, v3, v4, v5, v6, v7, v8, v9⟩, ev, hv⟩ := hm
  have er : v0 = z0 := hv.1.trans hz.1.symm
  subst er
  refine ⟨v0, _, _, ⟨z1, z2, z3, z4, z5, z6, z7, z8, z9, z10, z11, z12, z13, ez, rfl⟩, ⟨v1, v2, v3, v4, v5, v6, v7, v8, v9, ev, rfl⟩, ?_⟩
  exact ⟨hS, hK, ⟨n, adj, hw, ⟨e1, hb, LNC_of hc hz.2.2.1 hz.2.2.2.1, hz.2.1, hp⟩, e2, hb2, hv.2, hp2⟩, hT⟩
theorem op_heap (σ : St) (x1 : Int32) (x2 : Int32) (h : Inv σ) : ∃ (r : Int32) (σ1 σ2 : St), eL_heap x1 x2 σ r σ1 ∧ eM_heap x1 x2 σ1 r σ2 ∧ Inv σ2 := by
  obtain ⟨hS, hK, ⟨n, adj, hw, ⟨e1, hb, hc, hs, hp⟩, e2, hb2, hc2, hp2⟩, hT⟩ := h
  have hm : Ok (M_heap x1 x2 (σ.1 3214) (σ.1 3215) (σ.1 3212) (σ.1 3203) (σ.1 3235) (σ.2.2.1 77) (σ.2.2.1 76) (σ.2.2.1 54) (σ.2.2.1 74) (σ.2.2.1 75) (σ.2.2.1 59)) (fun z => z.1 = spHeap adj n x1 x2 ∧ MC adj n z.2.1 z.2.2.1 z.2.2.2.1 z.2.2.2.2.2.2.2.2.2 ∧ (0 ≤ spPerf adj n x1 → ∃ m, 1 ≤ m ∧ m ≤ 32 ∧ spPerf adj n x1 = nI m)) := by rw [e2]; exact M_heap_s hw hb2 hc2
  obtain ⟨⟨v0, v1, v2, v3, v4, v5, v6, v7, v8, v9⟩, ev, hv⟩ := hm
  have hl : Ok (LN_heap x1 x2 (σ.1 641) (σ.1 2373) (σ.1 2372) (σ.1 2371) (σ.1 1286) (σ.1 1283) (σ.1 1285) (σ.1 1284) (σ.2.2.1 11) (σ.2.2.1 38) (σ.2.2.1 39) (σ.2.2.1 40) (σ.2.2.1 22) (σ.2.2.1 23) (σ.2.2.1 21)) (fun z => z.1 = spHeap adj n x1 x2 ∧ SK adj n z.2.1 z.2.2.1 z.2.2.2.2.2.2.2.2.2.1 ∧ LC adj n z.2.2.2.2.1 z.2.2.2.2.2.1 z.2.2.2.2.2.2.1 z.2.2.2.2.2.2.2.1 z.2.2.2.2.2.2.2.2.2.2.2.1 z.2.2.2.2.2.2.2.2.2.2.2.2.1 z.2.2.2.2.2.2.2.2.2.2.2.2.2 ∧ ((σ.1 1283) = 1 → z.2.2.2.2.2.1 = 1)) := by rw [e1]; exact LN_heap_s hw hb hc.1 hs hv.2.2
  obtain ⟨⟨z0, z1, z2, z3, z4, z5, z6, z7, z8, z9, z10, z11, z12, z13⟩, ez, hz⟩ := hl
  have er : v0 = z0 := hv.1.trans hz.1.symm
  subst er
  refine ⟨v0, _, _, ⟨z1, z2, z3, z4, z5, z6, z7, z8, z9, z10, z11, z12, z13, ez, rfl⟩, ⟨v1, v2, v3, v4, v5, v6, v7, v8, v9, ev, rfl⟩, ?_⟩
  exact ⟨hS, hK, ⟨n, adj, hw, ⟨e1, hb, LNC_of hc hz.2.2.1 hz.2.2.2, hz.2.1, hp⟩, e2, hb2, hv.2.1, hp2⟩, hT⟩
theorem fnl_c {adj : Nat → Nat → Bool} {n c c2 : Nat} {s s2 : Nat → Int32} (h : fnl adj n s c) (h2 : fnl adj n s2 c2) : c = c2 := (fnl_one h h2).1
theorem fnl_k {adj : Nat → Nat → Bool} {n c c2 : Nat} {s s2 : Nat → Int32} {x y : Int32} (hw : WF n adj) (h : fnl adj n s c) (h2 : fnl adj n s2 c2) (hx : inb x n = true) (hy : inb y n = true) : s (32 * x.toNatClampNeg + y.toNatClampNeg) = s2 (32 * x.toNatClampNeg + y.toNatClampNeg) := by
  have hn := hw.1
  obtain ⟨p, hp, rfl⟩ := inb_of hx (by omega)
  obtain ⟨q, hq, rfl⟩ := inb_of hy (by omega)
  rw [cl_nI (by omega), cl_nI (by omega)]
  exact (fnl_one h h2).2 _ (vd_at hn hp hq)
theorem op_kinds (σ : St)  (h : Inv σ) : ∃ (r : Int32) (σ1 σ2 : St), eL_kinds  σ r σ1 ∧ eM_kinds  σ1 r σ2 ∧ Inv σ2 := by
  obtain ⟨hS, hK, ⟨n, adj, hw, ⟨e1, hb, hc, hs, hp⟩, e2, hb2, hc2, hp2⟩, hT⟩ := h
  have hl : Ok (LN_kinds (σ.1 641) (σ.1 2634) (σ.1 2632) (σ.1 2633) (σ.2.2.1 11) (σ.2.2.1 44) (σ.2.2.1 45) (σ.2.2.1 48) (σ.2.2.1 46) (σ.2.2.1 49) (σ.2.2.1 43) (σ.2.2.1 42) (σ.2.2.2 47)) (fun z => z.2.2.1 = 1 ∧ z.1 = z.2.1 ∧ ∃ c, z.2.1 = nI c ∧ fnl adj n z.2.2.2.2.2.2.2.2.2.2.1 c) := by rw [e1]; exact LN_kinds_s hw hb hp
  have hm : Ok (M_kinds (σ.1 3238) (σ.1 3242) (σ.1 3203) (σ.2.2.1 81) (σ.2.2.1 78) (σ.2.2.1 79) (σ.2.2.1 54) (σ.2.2.1 80)) (fun z => z.2.1 = 1 ∧ z.1 = z.2.2.1 ∧ ∃ c, z.2.2.1 = nI c ∧ fnl adj n z.2.2.2.2.1 c) := by rw [e2]; exact M_kinds_s hw hb2 hp2
  obtain ⟨⟨z0, z1, z2, z3, z4, z5, z6, z7, z8, z9, z10, z11⟩, ez, hz⟩ := hl
  obtain ⟨⟨v0, v1, v2, v3, v4, v5, v6⟩, ev, hv⟩ := hm
  have er : v0 = z0 := by
    obtain ⟨q1, q2, kc, q3, q4⟩ := hz
    obtain ⟨p1, p2, kd, p3, p4⟩ := hv
    rw [show v0 = _ from p2, show z0 = _ from q2, show v2 = _ from p3, show z1 = _ from q3, fnl_c p4 q4]
  subst er
  refine ⟨v0, _, _, ⟨z1, z2, z3, z4, z5, z6, z7, z8, z9, z10, z11, ez, rfl⟩, ⟨v1, v2, v3, v4, v5, v6, ev, rfl⟩, ?_⟩
  obtain ⟨q1, q2, kc, q3, q4⟩ := hz
  obtain ⟨p1, p2, kd, p3, p4⟩ := hv
  exact ⟨hS, hK, ⟨n, adj, hw, ⟨e1, hb, hc, hs, Or.inr ⟨q1, kc, q3, q4⟩⟩, e2, hb2, hc2, Or.inr ⟨p1, kd, p3, p4⟩⟩, hT⟩
theorem op_kind (σ : St) (x1 : Int32) (x2 : Int32) (h : Inv σ) : ∃ (r : Int32) (σ1 σ2 : St), eL_kind x1 x2 σ r σ1 ∧ eM_kind x1 x2 σ1 r σ2 ∧ Inv σ2 := by
  obtain ⟨hS, hK, ⟨n, adj, hw, ⟨e1, hb, hc, hs, hp⟩, e2, hb2, hc2, hp2⟩, hT⟩ := h
  have hl : Ok (LN_kind x1 x2 (σ.1 641) (σ.1 2634) (σ.1 2632) (σ.1 2633) (σ.2.2.1 11) (σ.2.2.1 44) (σ.2.2.1 45) (σ.2.2.1 48) (σ.2.2.1 46) (σ.2.2.1 49) (σ.2.2.1 43) (σ.2.2.1 42) (σ.2.2.2 47)) (fun z => PC adj n z.2.1 z.2.2.1 z.2.2.2.2.2.2.2.2.2.2.1 ∧ ((¬ (inb x1 n = true ∧ inb x2 n = true) ∧ z.1 = -1) ∨ ((inb x1 n = true ∧ inb x2 n = true) ∧ ∃ K c, fnl adj n K c ∧ z.1 = K (32 * x1.toNatClampNeg + x2.toNatClampNeg)))) := by rw [e1]; exact LN_kind_s hw hb hp
  have hm : Ok (M_kind x1 x2 (σ.1 3238) (σ.1 3242) (σ.1 3203) (σ.2.2.1 81) (σ.2.2.1 78) (σ.2.2.1 79) (σ.2.2.1 54) (σ.2.2.1 80)) (fun z => PC adj n z.2.2.1 z.2.1 z.2.2.2.2.1 ∧ ((¬ (inb x1 n = true ∧ inb x2 n = true) ∧ z.1 = -1) ∨ ((inb x1 n = true ∧ inb x2 n = true) ∧ ∃ K c, fnl adj n K c ∧ z.1 = K (32 * x1.toNatClampNeg + x2.toNatClampNeg)))) := by rw [e2]; exact M_kind_s hw hb2 hp2
  obtain ⟨⟨z0, z1, z2, z3, z4, z5, z6, z7, z8, z9, z10, z11⟩, ez, hz⟩ := hl
  obtain ⟨⟨v0, v1, v2, v3, v4, v5, v6⟩, ev, hv⟩ := hm
  have er : v0 = z0 := by
    rcases hz.2 with ⟨g, h⟩ | ⟨g, K, cc, f1, h⟩
    · rcases hv.2 with ⟨_, h2⟩ | ⟨g2, _⟩
      · exact h2.trans h.symm
      · exact absurd g2 g
    · rcases hv.2 with ⟨g2, _⟩ | ⟨_, K2, cc2, f2, h2⟩
      · exact absurd g g2
      · exact h2.trans ((fnl_k hw f2 f1 g.1 g.2).trans h.symm)
  subst er
  refine ⟨v0, _, _, ⟨z1, z2, z3, z4, z5, z6, z7, z8, z9, z10, z11, ez, rfl⟩, ⟨v1, v2, v3, v4, v5, v6, ev, rfl⟩, ?_⟩
  exact ⟨hS, hK, ⟨n, adj, hw, ⟨e1, hb, hc, hs, hz.1⟩, e2, hb2, hc2, hv.1⟩, hT⟩
