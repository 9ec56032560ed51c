/-! what is kept of the ways between calls -/
def LC (adj : Nat → Nat → Bool) (n : Nat) (far ready size whole : Int32) (ly re st : Nat → Int32) : Prop := ready = 0 ∨ (ready = 1 ∧ LW adj n far size whole ly re st)
def MC (adj : Nat → Nat → Bool) (n : Nat) (far heaps im : Int32) (w : Nat → Int32) : Prop := im = 0 ∨ (im = 1 ∧ MW adj n far heaps w)
theorem Wy_between_s {p q : Nat} (hp : p < 32) (hq : q < 32) (st : Nat → Int32) : Wy_between (nI p) (nI q) st = some (st (32 * p + q)) := by
  unfold Wy_between
  rw [i32', gd_t (inb_nI (by omega) (by omega)), cl_nI (by omega)]
theorem LN_way_s {n : Nat} {x y : Int32} {near ly re st : Nat → Int32} {a0 b0 c0 d0 : Int32} {adj : Nat → Nat → Bool} (hw : WF n adj) (hb : Lb near adj) (hc : LC adj n a0 b0 c0 d0 ly re st) : Ok (LN_way x y (nI n) a0 b0 c0 d0 near ly re st) (fun z => z.1 = spWay adj n x y ∧ LC adj n z.2.1 z.2.2.1 z.2.2.2.1 z.2.2.2.2.1 z.2.2.2.2.2.1 z.2.2.2.2.2.2.1 z.2.2.2.2.2.2.2) := by
  have hn := hw.1
  unfold LN_way LN_way_n22 LN_way_n48
  refine ok_e (Net_has_s (by omega)) ?_
  cases hx : inb x n
  · exact ok_t (by decide) (ok_s ⟨by unfold spWay; rw [hx, if_neg (by simp)], hc⟩)
  · refine ok_f (by decide) (ok_e (Net_has_s (by omega)) ?_)
    cases hy : inb y n
    · exact ok_t (by decide) (ok_s ⟨by unfold spWay; rw [hx, hy, if_neg (by simp)], hc⟩)
    · refine ok_f (by decide) (ok_b (LN_measure_c hw hb hc) (fun z hz => ?_))
      obtain ⟨p, hp, rfl⟩ := inb_of hx (by omega)
      obtain ⟨q, hq, rfl⟩ := inb_of hy (by omega)
      refine ok_e (Wy_between_s (by omega) (by omega) _) ?_
      have e : spWay adj n (nI p) (nI q) = if dN adj n p q < 33 then nI (dN adj n p q) else -8 := by
        unfold spWay; rw [hx, hy, if_pos ⟨rfl, rfl⟩, cl_nI (by omega), cl_nI (by omega)]
      rw [hz.2.2.2.1 p hp q (by omega), e]
      by_cases g : dN adj n p q < 33
      · rw [if_pos g, if_pos g]
        exact ok_t (nI_pos' (by omega)) (ok_s ⟨rfl, Or.inr hz⟩)
      · rw [if_neg g, if_neg g]
        exact ok_f (by decide) (ok_s ⟨rfl, Or.inr hz⟩)
theorem M_way_s {n : Nat} {x y : Int32} {road w0 : Nat → Int32} {f0 g0 im : Int32} {adj : Nat → Nat → Bool} (hw : WF n adj) (hb : Mb road adj) (hc : MC adj n f0 g0 im w0) : Ok (M_way x y f0 g0 im (nI n) road w0) (fun z => z.1 = spWay adj n x y ∧ MC adj n z.2.1 z.2.2.1 z.2.2.2.1 z.2.2.2.2) := by
  have hn := hw.1
  unfold M_way M_way_n16 M_way_n54
  refine ok_e (M_isPost_s (by omega)) ?_
  cases hx : inb x n
  · exact ok_t (by decide) (ok_s ⟨by unfold spWay; rw [hx, if_neg (by simp)], hc⟩)
  · refine ok_f (by decide) (ok_e (M_isPost_s (by omega)) ?_)
    cases hy : inb y n
    · exact ok_t (by decide) (ok_s ⟨by unfold spWay; rw [hx, hy, if_neg (by simp)], hc⟩)
    · refine ok_f (by decide) (ok_b (M_measure_c hw hb hc) (fun z hz => ?_))
      obtain ⟨p, hp, rfl⟩ := inb_of hx (by omega)
      obtain ⟨q, hq, rfl⟩ := inb_of hy (by omega)
      rw [i32]
      refine ok_g (inb_nI (by omega) (by omega)) ?_
      have e : spWay adj n (nI p) (nI q) = if dN adj n p q < 33 then nI (dN adj n p q) else -8 := by
        unfold spWay; rw [hx, hy, if_pos ⟨rfl, rfl⟩, cl_nI (by omega), cl_nI (by omega)]
      have hd := dN_le (adj := adj) (n := n) p q
      rw [cl_nI (by omega), hz.2.1 p hp q (by omega), e]
      unfold wy
      by_cases g : dN adj n p q < 33
      · rw [if_pos g, if_pos g]
        exact ok_f (by rw [lit99, nI_eq (by omega) (by omega)]; omega) (ok_s ⟨rfl, Or.inr hz⟩)
      · rw [if_neg g, if_neg g]
        exact ok_t rfl (ok_s ⟨rfl, Or.inr hz⟩)
