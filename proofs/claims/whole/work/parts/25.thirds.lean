/-! thirds(p, q, j, l) -/
theorem Wy_postsAt_s {n p j : Nat} {ly : Nat → Int32} {adj : Nat → Nat → Bool} (hw : WF n adj) (hp : p < n) (hj : j < 2 ^ 31) (h : ∀ j, j < 32 → lyB adj n p j (ly (32 * p + j))) : Ok (Wy_postsAt (nI p) (nI j) ly) (fun m => ∀ q, q < 32 → (bt m q = true ↔ dN adj n p q = j ∧ dN adj n p q < 33)) := by
  have hn := hw.1
  unfold Wy_postsAt Wy_postsAt_n10 Wy_postsAt_n25
  refine ok_f (nI_pos hj) (ok_i (fun c => ?_) (fun c => ?_))
  · have c : j < 32 := (nI_ltI (b := 32) hj (by decide)).mp c
    rw [i32']
    refine ok_g (inb_nI (by omega) (by omega)) (ok_s (fun q hq => ?_))
    rw [cl_nI (by omega), h j c q hq]
    omega
  · have c : ¬ j < 32 := fun g => c ((nI_ltI (b := 32) hj (by decide)).mpr g)
    refine ok_s (fun q hq => ?_)
    rw [b_0]
    refine ⟨fun g => absurd g (by decide), fun g => ?_⟩
    have := dN_bound hw hp g.2
    omega
def thN (adj : Nat → Nat → Bool) (n p q j l : Nat) : Nat := fb_ct (fun z => decide ((dN adj n p z = j ∧ dN adj n p z < 33) ∧ dN adj n q z = l ∧ dN adj n q z < 33)) n
def spThirds (adj : Nat → Nat → Bool) (n : Nat) (x y j l : Int32) : Int32 := if inb x n = true ∧ inb y n = true ∧ ¬ j < 0 ∧ 0 ≤ l then nI (thN adj n x.toNatClampNeg y.toNatClampNeg j.toNatClampNeg l.toNatClampNeg) else -1
theorem LN_thirds_s {n : Nat} {x y j l : Int32} {near ly re st : Nat → Int32} {a0 b0 c0 d0 : Int32} {adj : Nat → Nat → Bool} (hw : WF n adj) (hb : Lb near adj) (hc : LC adj n a0 b0 c0 d0 ly re st) : Ok (LN_thirds x y j l (nI n) a0 b0 c0 d0 near ly re st) (fun z => z.1 = spThirds adj n x y j l ∧ LC adj n z.2.1 z.2.2.1 z.2.2.2.1 z.2.2.2.2.1 z.2.2.2.2.2.1 z.2.2.2.2.2.2.1 z.2.2.2.2.2.2.2) := by
  have hn := hw.1
  unfold LN_thirds LN_thirds_n31
  refine ok_e (Net_has_s (by omega)) ?_
  cases hx : inb x n
  · exact ok_t (by decide) (ok_s ⟨by unfold spThirds; rw [hx, if_neg (by simp)], hc⟩)
  · refine ok_f (by decide) (ok_e (Net_has_s (by omega)) ?_)
    cases hy : inb y n
    · exact ok_t (by decide) (ok_s ⟨by unfold spThirds; rw [hx, hy, if_neg (by simp)], hc⟩)
    · refine ok_f (by decide) (ok_i (fun c1 => ok_s ⟨by unfold spThirds; rw [if_neg (fun h => h.2.2.1 c1)], hc⟩) (fun c1 => ok_i (fun c2 => ?_) (fun c2 => ok_s ⟨by unfold spThirds; rw [if_neg (fun h => c2 h.2.2.2)], hc⟩)))
      obtain ⟨j', hj, rfl⟩ := nI_of c1
      obtain ⟨l', hl, rfl⟩ := nI_of (x := l) (fun g => by rw [Int32.lt_iff_toInt_lt] at g; rw [Int32.le_iff_toInt_le] at c2; omega)
      obtain ⟨p, hp, rfl⟩ := inb_of hx (by omega)
      obtain ⟨q, hq, rfl⟩ := inb_of hy (by omega)
      refine ok_b (LN_measure_c hw hb hc) (fun z hz => ok_b (Wy_postsAt_s hw hp hj (hz.2.2.1 p hp)) (fun m1 hm1 => ok_b (Wy_postsAt_s hw hq hl (hz.2.2.1 q hq)) (fun m2 hm2 => ok_e (JI_bitCount_s _) (ok_s ⟨?_, Or.inr hz⟩))))
      unfold spThirds
      rw [hx, hy, if_pos ⟨rfl, rfl, c1, c2⟩, cl_nI (by omega), cl_nI (by omega), cl_nI hj, cl_nI hl]
      show nI (cnt (m1 &&& m2)) = _
      refine congrArg nI ?_
      unfold thN
      rw [← ct_ext hn (p := fun z => decide ((dN adj n p z = j' ∧ dN adj n p z < 33) ∧ dN adj n q z = l' ∧ dN adj n q z < 33)) (fun k hk => decide_eq_false (fun g => by have := dN_lt hw hp g.1.2; omega))]
      refine fb_ct_cong (fun k hk => bt_iff ?_)
      rw [b_and, Bool.and_eq_true, hm1 k hk, hm2 k hk, decide_eq_true_iff]
